/-! Conditions (wip/tools/gen_k.py) -/
/-- method 165 -/
def K_165 (d pc : Nat) (lv : ev_L) (st : List Value) (u : uS) (Q : uS → Prop) : Prop := okU d 10 5 false none prog_12_method_6_code (qV Q) pc lv st u
theorem e_165 {d : Nat} {Q : uS → Prop} {u : uS} {l1 l2 : Nat} (hOl1 : isO l1 2) (hOl2 : isO l2 5) (h : cV d 43 [.ref 255, .ref l1] u (fun u1 => ∀ u2 : uS, u2 = wq u1 231 3 l2 → (K_165 d 15 [.ref 231, .retAddr 0, .retAddr 0, iV 0, .retAddr 0] [] u2 Q))) : cV (d + 1) 165 [.ref 231, .ref l1, .ref l2] u Q := by
  refine u_of me_165 (Nat.le_of_ble_eq_true rfl) ?_
  refine u_ld (v := .ref 231) (pc := 0) (dec_at lsk_165 (k := 0) rfl) rfl ?_
  refine u_gS (o := 24) (p := 255) (pc := 1) (dec_at lsk_165 (k := 1) rfl) f_10_21 sx_231 rfl rfl ?_
  refine u_ld (v := .ref l1) (pc := 4) (dec_at lsk_165 (k := 2) rfl) rfl ?_
  refine u_cvV (As := [.ref l1]) (rb := 255) (st2 := []) (pc := 5) (dec_at lsk_165 (k := 3) rfl) m_10_63 (Or.inl rfl) rfl (Nat.le_of_ble_eq_true rfl) sx_255 me_43 rfl h (fun u1 h => ?_)
  refine u_ld (v := .ref 231) (pc := 8) (dec_at lsk_165 (k := 4) rfl) rfl ?_
  refine u_ld (v := .ref l2) (pc := 9) (dec_at lsk_165 (k := 5) rfl) rfl ?_
  refine u_pR (z := 3) (pc := 10) (dec_at lsk_165 (k := 6) rfl) f_10_28 sx_231 rfl rfl rfl rfl rfl (fun u2 e3 => ?_)
  have h := h u2 e3
  refine u_ld (v := iV 0) (pc := 13) (dec_at lsk_165 (k := 7) rfl) rfl ?_
  refine u_sto (lv' := [.ref 231, .ref l1, .ref l2, iV 0, .retAddr 0]) (pc := 14) (dec_at lsk_165 (k := 8) rfl) rfl ?_
  exact u_weak (sbK (sbD (sbD (sbK (sbK sb0))))) h
theorem k_165_15 {d : Nat} {Q : uS → Prop} {u : uS} {l3 : Int} (h : (rI l3) ∧ ((rI (u.1 232 7)) ∧ (if l3 < u.1 232 7 then ((0 ≤ l3) ∧ ((l3 < 16000) ∧ ((0 ≤ u.1 246 l3) ∧ ((u.1 246 l3 < 16000) ∧ (∀ u8 : uS, u8 = wr u 268 (u.1 246 l3) 0 → (K_165 d 15 [.ref 231, .retAddr 0, .retAddr 0, iV (l3 + 1), .retAddr 0] [] u8 Q)))))) else ((0 ≤ u.1 232 3) ∧ ((u.1 232 3 < 16000) ∧ (∀ u12 : uS, u12 = wr u 268 (u.1 232 3) 1 → (K_165 d 70 [.ref 231, .retAddr 0, .retAddr 0, iV ((u12.1 232 7) - 1), .retAddr 0] [] u12 Q))))))) : K_165 d 15 [.ref 231, .retAddr 0, .retAddr 0, iV l3, .retAddr 0] [] u Q := by
  unfold K_165
  refine u_ld (v := iV l3) (pc := 15) (dec_at lsk_165 (k := 9) rfl) rfl ?_
  refine u_ld (v := .ref 231) (pc := 16) (dec_at lsk_165 (k := 10) rfl) rfl ?_
  refine u_gS (o := 1) (p := 232) (pc := 17) (dec_at lsk_165 (k := 11) rfl) f_10_12 sx_231 rfl rfl ?_
  refine u_gI (z := 7) (pc := 20) (dec_at lsk_165 (k := 12) rfl) f_10_67 sx_232 rfl rfl ?_
  have g1 := h.1
  have h := h.2
  have g2 := h.1
  have h := h.2
  refine u_icF (pc := 23) (tgt := 47) (dec_at lsk_165 (k := 13) rfl) rfl (ci_ge g1 g2) (fun e3 => ?_) (fun e3 => ?_)
  · have h := ifT e3 h
    refine u_ld (v := .ref 231) (pc := 26) (dec_at lsk_165 (k := 14) rfl) rfl ?_
    refine u_gS (o := 37) (p := 268) (pc := 27) (dec_at lsk_165 (k := 15) rfl) f_10_39 sx_231 rfl rfl ?_
    refine u_ld (v := .ref 231) (pc := 30) (dec_at lsk_165 (k := 16) rfl) rfl ?_
    refine u_gS (o := 1) (p := 232) (pc := 31) (dec_at lsk_165 (k := 17) rfl) f_10_12 sx_231 rfl rfl ?_
    refine u_gS (o := 14) (p := 246) (pc := 34) (dec_at lsk_165 (k := 18) rfl) f_10_70 sx_232 rfl rfl ?_
    refine u_ld (v := iV l3) (pc := 37) (dec_at lsk_165 (k := 19) rfl) rfl ?_
    have g4 := h.1
    have h := h.2
    have g5 := h.1
    have h := h.2
    refine u_iald (pc := 38) (dec_at lsk_165 (k := 20) rfl) sx_246 g4 g5 ?_
    refine u_cl (x := 0) (pc := 39) (dec_at lsk_165 (k := 21) rfl) rfl (by decide) ?_
    have g6 := h.1
    have h := h.2
    have g7 := h.1
    have h := h.2
    refine u_last (pc := 40) (dec_at lsk_165 (k := 22) rfl) sx_268 g6 g7 (fun u8 e9 => ?_)
    have h := h u8 e9
    refine u_inc (lv' := [.ref 231, .retAddr 0, .retAddr 0, iV (l3 + 1), .retAddr 0]) (pc := 41) (dec_at lsk_165 (k := 23) rfl) rfl (by decide) rfl ?_
    refine u_goto (pc := 44) (tgt := 15) (dec_at lsk_165 (k := 24) rfl) rfl ?_
    exact h
  · have h := ifF e3 h
    refine u_ld (v := .ref 231) (pc := 47) (dec_at lsk_165 (k := 25) rfl) rfl ?_
    refine u_gS (o := 37) (p := 268) (pc := 48) (dec_at lsk_165 (k := 26) rfl) f_10_39 sx_231 rfl rfl ?_
    refine u_ld (v := .ref 231) (pc := 51) (dec_at lsk_165 (k := 27) rfl) rfl ?_
    refine u_gS (o := 1) (p := 232) (pc := 52) (dec_at lsk_165 (k := 28) rfl) f_10_12 sx_231 rfl rfl ?_
    refine u_gI (z := 3) (pc := 55) (dec_at lsk_165 (k := 29) rfl) f_10_52 sx_232 rfl rfl ?_
    refine u_cl (x := 1) (pc := 58) (dec_at lsk_165 (k := 30) rfl) rfl (by decide) ?_
    have g10 := h.1
    have h := h.2
    have g11 := h.1
    have h := h.2
    refine u_last (pc := 59) (dec_at lsk_165 (k := 31) rfl) sx_268 g10 g11 (fun u12 e13 => ?_)
    have h := h u12 e13
    refine u_ld (v := .ref 231) (pc := 60) (dec_at lsk_165 (k := 32) rfl) rfl ?_
    refine u_gS (o := 1) (p := 232) (pc := 61) (dec_at lsk_165 (k := 33) rfl) f_10_12 sx_231 rfl rfl ?_
    refine u_gI (z := 7) (pc := 64) (dec_at lsk_165 (k := 34) rfl) f_10_67 sx_232 rfl rfl ?_
    refine u_ld (v := iV 1) (pc := 67) (dec_at lsk_165 (k := 35) rfl) rfl ?_
    refine u_isub (pc := 68) (dec_at lsk_165 (k := 36) rfl) ?_
    refine u_sto (lv' := [.ref 231, .retAddr 0, .retAddr 0, iV ((u12.1 232 7) - 1), .retAddr 0]) (pc := 69) (dec_at lsk_165 (k := 37) rfl) rfl ?_
    exact h
theorem k_165_70 {d : Nat} {Q : uS → Prop} {u : uS} {l3 : Int} (h : (rI l3) ∧ (if l3 < 0 then (K_165 d 117 [.ref 231, .retAddr 0, .retAddr 0, iV 0, .retAddr 0] [] u Q) else ((l3 < 16000) ∧ ((0 ≤ u.1 246 l3) ∧ ((u.1 246 l3 < 16000) ∧ ((rL (u.1 268 (u.1 246 l3))) ∧ (if u.1 268 (u.1 246 l3) = 0 then (K_165 d 70 [.ref 231, .retAddr 0, .retAddr 0, iV (l3 + (-1)), .retAddr 0] [] u Q) else (cV d 166 [.ref 231, iV (u.1 246 l3)] u (fun u8 => cV d 171 [.ref 231, iV (u.1 246 l3)] u8 (fun u9 => K_165 d 70 [.ref 231, .retAddr 0, .retAddr 0, iV (l3 + (-1)), .retAddr 0] [] u9 Q)))))))))) : K_165 d 70 [.ref 231, .retAddr 0, .retAddr 0, iV l3, .retAddr 0] [] u Q := by
  unfold K_165
  refine u_ld (v := iV l3) (pc := 70) (dec_at lsk_165 (k := 38) rfl) rfl ?_
  have g1 := h.1
  have h := h.2
  refine u_ifT (pc := 71) (tgt := 115) (dec_at lsk_165 (k := 39) rfl) rfl (c0_lt g1) (fun e2 => ?_) (fun e2 => ?_)
  · have h := ifT e2 h
    refine u_ld (v := iV 0) (pc := 115) (dec_at lsk_165 (k := 61) rfl) rfl ?_
    refine u_sto (lv' := [.ref 231, .retAddr 0, .retAddr 0, iV 0, .retAddr 0]) (pc := 116) (dec_at lsk_165 (k := 62) rfl) rfl ?_
    exact h
  · have h := ifF e2 h
    refine u_ld (v := .ref 231) (pc := 74) (dec_at lsk_165 (k := 40) rfl) rfl ?_
    refine u_gS (o := 1) (p := 232) (pc := 75) (dec_at lsk_165 (k := 41) rfl) f_10_12 sx_231 rfl rfl ?_
    refine u_gS (o := 14) (p := 246) (pc := 78) (dec_at lsk_165 (k := 42) rfl) f_10_70 sx_232 rfl rfl ?_
    refine u_ld (v := iV l3) (pc := 81) (dec_at lsk_165 (k := 43) rfl) rfl ?_
    have g3 := h.1
    have h := h.2
    refine u_iald (pc := 82) (dec_at lsk_165 (k := 44) rfl) sx_246 (Int.not_lt.mp e2) g3 ?_
    refine u_sto (lv' := [.ref 231, .retAddr 0, .retAddr 0, iV l3, iV (u.1 246 l3)]) (pc := 83) (dec_at lsk_165 (k := 45) rfl) rfl ?_
    refine u_ld (v := .ref 231) (pc := 85) (dec_at lsk_165 (k := 46) rfl) rfl ?_
    refine u_gS (o := 37) (p := 268) (pc := 86) (dec_at lsk_165 (k := 47) rfl) f_10_39 sx_231 rfl rfl ?_
    refine u_ld (v := iV (u.1 246 l3)) (pc := 89) (dec_at lsk_165 (k := 48) rfl) rfl ?_
    have g4 := h.1
    have h := h.2
    have g5 := h.1
    have h := h.2
    refine u_lald (pc := 91) (dec_at lsk_165 (k := 49) rfl) sx_268 g4 g5 ?_
    refine u_cl (x := 0) (pc := 92) (dec_at lsk_165 (k := 50) rfl) rfl (by decide) ?_
    refine u_st (st' := [.int (lg_cmp (Int64.ofInt (u.1 268 (u.1 246 l3))) (Int64.ofInt 0))]) (pc := 93) (dec_at lsk_165 (k := 51) rfl) rfl ?_
    have g6 := h.1
    have h := h.2
    refine u_ifT (pc := 94) (tgt := 109) (dec_at lsk_165 (k := 52) rfl) rfl (cl_eq g6 (by decide)) (fun e7 => ?_) (fun e7 => ?_)
    · have h := ifT e7 h
      refine u_inc (lv' := [.ref 231, .retAddr 0, .retAddr 0, iV (l3 + (-1)), iV (u.1 246 l3)]) (pc := 109) (dec_at lsk_165 (k := 59) rfl) rfl (by decide) rfl ?_
      refine u_goto (pc := 112) (tgt := 70) (dec_at lsk_165 (k := 60) rfl) rfl ?_
      exact u_weak (sbK (sbK (sbK (sbK (sbD sb0))))) h
    · have h := ifF e7 h
      refine u_ld (v := .ref 231) (pc := 97) (dec_at lsk_165 (k := 53) rfl) rfl ?_
      refine u_ld (v := iV (u.1 246 l3)) (pc := 98) (dec_at lsk_165 (k := 54) rfl) rfl ?_
      refine u_cvV (As := [iV (u.1 246 l3)]) (rb := 231) (st2 := []) (pc := 100) (dec_at lsk_165 (k := 55) rfl) m_10_73 (Or.inl rfl) rfl (Nat.le_of_ble_eq_true rfl) sx_231 me_166 rfl h (fun u8 h => ?_)
      refine u_ld (v := .ref 231) (pc := 103) (dec_at lsk_165 (k := 56) rfl) rfl ?_
      refine u_ld (v := iV (u.1 246 l3)) (pc := 104) (dec_at lsk_165 (k := 57) rfl) rfl ?_
      refine u_cvV (As := [iV (u.1 246 l3)]) (rb := 231) (st2 := []) (pc := 106) (dec_at lsk_165 (k := 58) rfl) m_10_77 (Or.inl rfl) rfl (Nat.le_of_ble_eq_true rfl) sx_231 me_171 rfl h (fun u9 h => ?_)
      refine u_inc (lv' := [.ref 231, .retAddr 0, .retAddr 0, iV (l3 + (-1)), iV (u.1 246 l3)]) (pc := 109) (dec_at lsk_165 (k := 59) rfl) rfl (by decide) rfl ?_
      refine u_goto (pc := 112) (tgt := 70) (dec_at lsk_165 (k := 60) rfl) rfl ?_
      exact u_weak (sbK (sbK (sbK (sbK (sbD sb0))))) h
theorem k_165_117 {d : Nat} {Q : uS → Prop} {u : uS} {l3 : Int} (h : (rI l3) ∧ ((rI (u.1 232 7)) ∧ (if l3 < u.1 232 7 then ((0 ≤ l3) ∧ ((l3 < 16000) ∧ ((0 ≤ u.1 246 l3) ∧ ((u.1 246 l3 < 16000) ∧ ((rL (u.1 268 (u.1 246 l3))) ∧ (if u.1 268 (u.1 246 l3) = 0 then (K_165 d 117 [.ref 231, .retAddr 0, .retAddr 0, iV (l3 + 1), .retAddr 0] [] u Q) else (cL d 174 [.ref 231, iV (u.1 246 l3)] u (fun r11 u10 => ∀ u12 : uS, u12 = wr u10 268 (u.1 246 l3) r11 → (K_165 d 117 [.ref 231, .retAddr 0, .retAddr 0, iV (l3 + 1), .retAddr 0] [] u12 Q))))))))) else (∀ u14 : uS, u14 = wr u 231 0 1 → (Q u14))))) : K_165 d 117 [.ref 231, .retAddr 0, .retAddr 0, iV l3, .retAddr 0] [] u Q := by
  unfold K_165
  refine u_ld (v := iV l3) (pc := 117) (dec_at lsk_165 (k := 63) rfl) rfl ?_
  refine u_ld (v := .ref 231) (pc := 118) (dec_at lsk_165 (k := 64) rfl) rfl ?_
  refine u_gS (o := 1) (p := 232) (pc := 119) (dec_at lsk_165 (k := 65) rfl) f_10_12 sx_231 rfl rfl ?_
  refine u_gI (z := 7) (pc := 122) (dec_at lsk_165 (k := 66) rfl) f_10_67 sx_232 rfl rfl ?_
  have g1 := h.1
  have h := h.2
  have g2 := h.1
  have h := h.2
  refine u_icF (pc := 125) (tgt := 170) (dec_at lsk_165 (k := 67) rfl) rfl (ci_ge g1 g2) (fun e3 => ?_) (fun e3 => ?_)
  · have h := ifT e3 h
    refine u_ld (v := .ref 231) (pc := 128) (dec_at lsk_165 (k := 68) rfl) rfl ?_
    refine u_gS (o := 1) (p := 232) (pc := 129) (dec_at lsk_165 (k := 69) rfl) f_10_12 sx_231 rfl rfl ?_
    refine u_gS (o := 14) (p := 246) (pc := 132) (dec_at lsk_165 (k := 70) rfl) f_10_70 sx_232 rfl rfl ?_
    refine u_ld (v := iV l3) (pc := 135) (dec_at lsk_165 (k := 71) rfl) rfl ?_
    have g4 := h.1
    have h := h.2
    have g5 := h.1
    have h := h.2
    refine u_iald (pc := 136) (dec_at lsk_165 (k := 72) rfl) sx_246 g4 g5 ?_
    refine u_sto (lv' := [.ref 231, .retAddr 0, .retAddr 0, iV l3, iV (u.1 246 l3)]) (pc := 137) (dec_at lsk_165 (k := 73) rfl) rfl ?_
    refine u_ld (v := .ref 231) (pc := 139) (dec_at lsk_165 (k := 74) rfl) rfl ?_
    refine u_gS (o := 37) (p := 268) (pc := 140) (dec_at lsk_165 (k := 75) rfl) f_10_39 sx_231 rfl rfl ?_
    refine u_ld (v := iV (u.1 246 l3)) (pc := 143) (dec_at lsk_165 (k := 76) rfl) rfl ?_
    have g6 := h.1
    have h := h.2
    have g7 := h.1
    have h := h.2
    refine u_lald (pc := 145) (dec_at lsk_165 (k := 77) rfl) sx_268 g6 g7 ?_
    refine u_cl (x := 0) (pc := 146) (dec_at lsk_165 (k := 78) rfl) rfl (by decide) ?_
    refine u_st (st' := [.int (lg_cmp (Int64.ofInt (u.1 268 (u.1 246 l3))) (Int64.ofInt 0))]) (pc := 147) (dec_at lsk_165 (k := 79) rfl) rfl ?_
    have g8 := h.1
    have h := h.2
    refine u_ifT (pc := 148) (tgt := 164) (dec_at lsk_165 (k := 80) rfl) rfl (cl_eq g8 (by decide)) (fun e9 => ?_) (fun e9 => ?_)
    · have h := ifT e9 h
      refine u_inc (lv' := [.ref 231, .retAddr 0, .retAddr 0, iV (l3 + 1), iV (u.1 246 l3)]) (pc := 164) (dec_at lsk_165 (k := 88) rfl) rfl (by decide) rfl ?_
      refine u_goto (pc := 167) (tgt := 117) (dec_at lsk_165 (k := 89) rfl) rfl ?_
      exact u_weak (sbK (sbK (sbK (sbK (sbD sb0))))) h
    · have h := ifF e9 h
      refine u_ld (v := .ref 231) (pc := 151) (dec_at lsk_165 (k := 81) rfl) rfl ?_
      refine u_gS (o := 37) (p := 268) (pc := 152) (dec_at lsk_165 (k := 82) rfl) f_10_39 sx_231 rfl rfl ?_
      refine u_ld (v := iV (u.1 246 l3)) (pc := 155) (dec_at lsk_165 (k := 83) rfl) rfl ?_
      refine u_ld (v := .ref 231) (pc := 157) (dec_at lsk_165 (k := 84) rfl) rfl ?_
      refine u_ld (v := iV (u.1 246 l3)) (pc := 158) (dec_at lsk_165 (k := 85) rfl) rfl ?_
      refine u_cvL (As := [iV (u.1 246 l3)]) (rb := 231) (st2 := [iV (u.1 246 l3), .ref 268]) (pc := 160) (dec_at lsk_165 (k := 86) rfl) m_10_80 (Or.inl rfl) rfl (Nat.le_of_ble_eq_true rfl) sx_231 me_174 rfl h (fun r11 u10 h => ?_)
      refine u_last (pc := 163) (dec_at lsk_165 (k := 87) rfl) sx_268 g6 g7 (fun u12 e13 => ?_)
      have h := h u12 e13
      refine u_inc (lv' := [.ref 231, .retAddr 0, .retAddr 0, iV (l3 + 1), iV (u.1 246 l3)]) (pc := 164) (dec_at lsk_165 (k := 88) rfl) rfl (by decide) rfl ?_
      refine u_goto (pc := 167) (tgt := 117) (dec_at lsk_165 (k := 89) rfl) rfl ?_
      exact u_weak (sbK (sbK (sbK (sbK (sbD sb0))))) h
  · have h := ifF e3 h
    refine u_ld (v := .ref 231) (pc := 170) (dec_at lsk_165 (k := 90) rfl) rfl ?_
    refine u_ld (v := iV 1) (pc := 171) (dec_at lsk_165 (k := 91) rfl) rfl ?_
    refine u_pZ (z := 0) (pc := 172) (dec_at lsk_165 (k := 92) rfl) f_10_84 sx_231 rfl rfl rfl rfl (by decide) (fun u14 e15 => ?_)
    have h := h u14 e15
    exact u_rV (pc := 175) (dec_at lsk_165 (k := 93) rfl) rfl h
/-- method 166 -/
def K_166 (d pc : Nat) (lv : ev_L) (st : List Value) (u : uS) (Q : uS → Prop) : Prop := okU d 10 4 false none prog_12_method_7_code (qV Q) pc lv st u
theorem e_166 {d : Nat} {Q : uS → Prop} {u : uS} {l1 : Int} (h : (rI l1) ∧ ((rI (u.1 232 2)) ∧ (((u.1 232 2) ≠ 0) ∧ ((rI (l1.tdiv (u.1 232 2))) ∧ (K_166 (d + 1) 11 [.ref 231, iV l1, iV ((l1.tdiv (u.1 232 2)).tdiv (u.1 232 2)), iV 0] [] u Q))))) : cV (d + 2) 166 [.ref 231, iV l1] u Q := by
  refine u_of me_166 (Nat.le_of_ble_eq_true rfl) ?_
  refine u_ld (v := .ref 231) (pc := 0) (dec_at lsk_166 (k := 0) rfl) rfl ?_
  refine u_gS (o := 1) (p := 232) (pc := 1) (dec_at lsk_166 (k := 1) rfl) f_10_12 sx_231 rfl rfl ?_
  refine u_ld (v := iV l1) (pc := 4) (dec_at lsk_166 (k := 2) rfl) rfl ?_
  refine u_cvI (As := [iV l1]) (rb := 232) (st2 := []) (pc := 5) (dec_at lsk_166 (k := 3) rfl) m_10_88 (Or.inl rfl) rfl (Nat.le_of_ble_eq_true rfl) sx_232 me_149 rfl ?_ (fun _ _ h_ => h_)
  refine u_of me_149 (Nat.le_of_ble_eq_true rfl) ?_
  refine u_ld (v := iV l1) (pc := 0) (dec_at lsk_149 (k := 0) rfl) rfl ?_
  refine u_ld (v := .ref 232) (pc := 1) (dec_at lsk_149 (k := 1) rfl) rfl ?_
  refine u_gI (z := 2) (pc := 2) (dec_at lsk_149 (k := 2) rfl) f_11_25 sx_232 rfl rfl ?_
  have g1 := h.1
  have h := h.2
  have g2 := h.1
  have h := h.2
  have g3 := h.1
  have h := h.2
  refine u_idiv (pc := 5) (dec_at lsk_149 (k := 3) rfl) g1 g2 g3 ?_
  refine u_ld (v := .ref 232) (pc := 6) (dec_at lsk_149 (k := 4) rfl) rfl ?_
  refine u_gI (z := 2) (pc := 7) (dec_at lsk_149 (k := 5) rfl) f_11_25 sx_232 rfl rfl ?_
  have g4 := h.1
  have h := h.2
  refine u_idiv (pc := 10) (dec_at lsk_149 (k := 6) rfl) g4 g2 g3 ?_
  refine u_rI (pc := 11) (dec_at lsk_149 (k := 7) rfl) rfl ?_
  refine u_sto (lv' := [.ref 231, iV l1, iV ((l1.tdiv (u.1 232 2)).tdiv (u.1 232 2)), .retAddr 0]) (pc := 8) (dec_at lsk_166 (k := 4) rfl) rfl ?_
  refine u_ld (v := iV 0) (pc := 9) (dec_at lsk_166 (k := 5) rfl) rfl ?_
  refine u_sto (lv' := [.ref 231, iV l1, iV ((l1.tdiv (u.1 232 2)).tdiv (u.1 232 2)), iV 0]) (pc := 10) (dec_at lsk_166 (k := 6) rfl) rfl ?_
  exact h
theorem k_166_11 {d : Nat} {Q : uS → Prop} {u : uS} {l1 l2 l3 : Int} (h : (rI l3) ∧ ((rI (u.1 255 1)) ∧ (if l3 < u.1 255 1 then ((0 ≤ l3) ∧ ((l3 < 30) ∧ ((rI (u.1 257 l3)) ∧ ((rI l2) ∧ (if u.1 257 l3 = l2 then (cI (d + 1) 167 [.ref 231, iV l3, iV l1] u (fun r10 u9 => (rI r10) ∧ (if r10 = 0 then (K_166 (d + 1) 11 [.ref 231, iV l1, iV l2, iV (l3 + 1)] [] u9 Q) else ((0 ≤ l1) ∧ ((l1 < 16000) ∧ (∀ u15 : uS, u15 = wr u9 266 l1 l3 → (cI (d + 1) 169 [.ref 231, iV l3, iV l1] u15 (fun r18 u17 => ∀ u19 : uS, u19 = wr u17 267 l1 r18 → (Q u19))))))))) else (K_166 (d + 1) 11 [.ref 231, iV l1, iV l2, iV (l3 + 1)] [] u Q)))))) else (Q u)))) : K_166 (d + 1) 11 [.ref 231, iV l1, iV l2, iV l3] [] u Q := by
  unfold K_166
  refine u_ld (v := iV l3) (pc := 11) (dec_at lsk_166 (k := 7) rfl) rfl ?_
  refine u_ld (v := .ref 231) (pc := 12) (dec_at lsk_166 (k := 8) rfl) rfl ?_
  refine u_gS (o := 24) (p := 255) (pc := 13) (dec_at lsk_166 (k := 9) rfl) f_10_21 sx_231 rfl rfl ?_
  refine u_gI (z := 1) (pc := 16) (dec_at lsk_166 (k := 10) rfl) f_10_91 sx_255 rfl rfl ?_
  have g1 := h.1
  have h := h.2
  have g2 := h.1
  have h := h.2
  refine u_icF (pc := 19) (tgt := 70) (dec_at lsk_166 (k := 11) rfl) rfl (ci_ge g1 g2) (fun e3 => ?_) (fun e3 => ?_)
  · have h := ifT e3 h
    refine u_ld (v := .ref 231) (pc := 22) (dec_at lsk_166 (k := 12) rfl) rfl ?_
    refine u_gS (o := 24) (p := 255) (pc := 23) (dec_at lsk_166 (k := 13) rfl) f_10_21 sx_231 rfl rfl ?_
    refine u_gS (o := 2) (p := 257) (pc := 26) (dec_at lsk_166 (k := 14) rfl) f_10_93 sx_255 rfl rfl ?_
    refine u_ld (v := iV l3) (pc := 29) (dec_at lsk_166 (k := 15) rfl) rfl ?_
    have g4 := h.1
    have h := h.2
    have g5 := h.1
    have h := h.2
    refine u_iald (pc := 30) (dec_at lsk_166 (k := 16) rfl) sx_257 g4 g5 ?_
    refine u_ld (v := iV l2) (pc := 31) (dec_at lsk_166 (k := 17) rfl) rfl ?_
    have g6 := h.1
    have h := h.2
    have g7 := h.1
    have h := h.2
    refine u_icF (pc := 32) (tgt := 64) (dec_at lsk_166 (k := 18) rfl) rfl (ci_ne g6 g7) (fun e8 => ?_) (fun e8 => ?_)
    · have h := ifT e8 h
      refine u_ld (v := .ref 231) (pc := 35) (dec_at lsk_166 (k := 19) rfl) rfl ?_
      refine u_ld (v := iV l3) (pc := 36) (dec_at lsk_166 (k := 20) rfl) rfl ?_
      refine u_ld (v := iV l1) (pc := 37) (dec_at lsk_166 (k := 21) rfl) rfl ?_
      refine u_cvI (As := [iV l3, iV l1]) (rb := 231) (st2 := []) (pc := 38) (dec_at lsk_166 (k := 22) rfl) m_10_96 (Or.inl rfl) rfl (Nat.le_of_ble_eq_true rfl) sx_231 me_167 rfl h (fun r10 u9 h => ?_)
      have g11 := h.1
      have h := h.2
      refine u_ifT (pc := 41) (tgt := 64) (dec_at lsk_166 (k := 23) rfl) rfl (c0_eq g11) (fun e12 => ?_) (fun e12 => ?_)
      · have h := ifT e12 h
        refine u_inc (lv' := [.ref 231, iV l1, iV l2, iV (l3 + 1)]) (pc := 64) (dec_at lsk_166 (k := 38) rfl) rfl (by decide) rfl ?_
        refine u_goto (pc := 67) (tgt := 11) (dec_at lsk_166 (k := 39) rfl) rfl ?_
        exact h
      · have h := ifF e12 h
        refine u_ld (v := .ref 231) (pc := 44) (dec_at lsk_166 (k := 24) rfl) rfl ?_
        refine u_gS (o := 35) (p := 266) (pc := 45) (dec_at lsk_166 (k := 25) rfl) f_10_32 sx_231 rfl rfl ?_
        refine u_ld (v := iV l1) (pc := 48) (dec_at lsk_166 (k := 26) rfl) rfl ?_
        refine u_ld (v := iV l3) (pc := 49) (dec_at lsk_166 (k := 27) rfl) rfl ?_
        have g13 := h.1
        have h := h.2
        have g14 := h.1
        have h := h.2
        refine u_iast (pc := 50) (dec_at lsk_166 (k := 28) rfl) sx_266 g13 g14 (fun u15 e16 => ?_)
        have h := h u15 e16
        refine u_ld (v := .ref 231) (pc := 51) (dec_at lsk_166 (k := 29) rfl) rfl ?_
        refine u_gS (o := 36) (p := 267) (pc := 52) (dec_at lsk_166 (k := 30) rfl) f_10_36 sx_231 rfl rfl ?_
        refine u_ld (v := iV l1) (pc := 55) (dec_at lsk_166 (k := 31) rfl) rfl ?_
        refine u_ld (v := .ref 231) (pc := 56) (dec_at lsk_166 (k := 32) rfl) rfl ?_
        refine u_ld (v := iV l3) (pc := 57) (dec_at lsk_166 (k := 33) rfl) rfl ?_
        refine u_ld (v := iV l1) (pc := 58) (dec_at lsk_166 (k := 34) rfl) rfl ?_
        refine u_cvI (As := [iV l3, iV l1]) (rb := 231) (st2 := [iV l1, .ref 267]) (pc := 59) (dec_at lsk_166 (k := 35) rfl) m_10_100 (Or.inl rfl) rfl (Nat.le_of_ble_eq_true rfl) sx_231 me_169 rfl h (fun r18 u17 h => ?_)
        refine u_iast (pc := 62) (dec_at lsk_166 (k := 36) rfl) sx_267 g13 g14 (fun u19 e20 => ?_)
        have h := h u19 e20
        exact u_rV (pc := 63) (dec_at lsk_166 (k := 37) rfl) rfl h
    · have h := ifF e8 h
      refine u_inc (lv' := [.ref 231, iV l1, iV l2, iV (l3 + 1)]) (pc := 64) (dec_at lsk_166 (k := 38) rfl) rfl (by decide) rfl ?_
      refine u_goto (pc := 67) (tgt := 11) (dec_at lsk_166 (k := 39) rfl) rfl ?_
      exact h
  · have h := ifF e3 h
    exact u_rV (pc := 70) (dec_at lsk_166 (k := 40) rfl) rfl h
/-- method 167 -/
def K_167 (d pc : Nat) (lv : ev_L) (st : List Value) (u : uS) (Q : Int → uS → Prop) : Prop := okU d 10 9 false (some .boolean) prog_12_method_8_code (qI Q) pc lv st u
theorem e_167 {d : Nat} {Q : Int → uS → Prop} {u : uS} {l1 l2 : Int} (h : (rI l2) ∧ ((rI (u.1 232 2)) ∧ (((u.1 232 2) ≠ 0) ∧ ((rI (l2.tdiv (u.1 232 2))) ∧ ((0 ≤ l1) ∧ ((l1 < 30) ∧ (cV (d + 2) 142 [.ref 255, .ref (u.2 231 3), .ref 247, iV l1, iV ((l2.tdiv (u.1 232 2)).tmod (u.1 232 2)), .ref 269] u (fun u7 => (0 ≤ u.1 258 l1) ∧ ((u.1 258 l1 < 7) ∧ (K_167 (d + 2) 53 [.ref 231, iV l1, iV l2, iV ((l2.tdiv (u.1 232 2)).tmod (u.1 232 2)), iV (u.1 258 l1), lV (u7.1 269 (u.1 258 l1)), .retAddr 0, .retAddr 0, .retAddr 0] [] u7 Q)))))))))) : cI (d + 3) 167 [.ref 231, iV l1, iV l2] u Q := by
  refine u_of me_167 (Nat.le_of_ble_eq_true rfl) ?_
  refine u_ld (v := .ref 231) (pc := 0) (dec_at lsk_167 (k := 0) rfl) rfl ?_
  refine u_gS (o := 1) (p := 232) (pc := 1) (dec_at lsk_167 (k := 1) rfl) f_10_12 sx_231 rfl rfl ?_
  refine u_ld (v := iV l2) (pc := 4) (dec_at lsk_167 (k := 2) rfl) rfl ?_
  refine u_cvI (As := [iV l2]) (rb := 232) (st2 := []) (pc := 5) (dec_at lsk_167 (k := 3) rfl) m_10_104 (Or.inl rfl) rfl (Nat.le_of_ble_eq_true rfl) sx_232 me_150 rfl ?_ (fun _ _ h_ => h_)
  refine u_of me_150 (Nat.le_of_ble_eq_true rfl) ?_
  refine u_ld (v := iV l2) (pc := 0) (dec_at lsk_150 (k := 0) rfl) rfl ?_
  refine u_ld (v := .ref 232) (pc := 1) (dec_at lsk_150 (k := 1) rfl) rfl ?_
  refine u_gI (z := 2) (pc := 2) (dec_at lsk_150 (k := 2) rfl) f_11_25 sx_232 rfl rfl ?_
  have g1 := h.1
  have h := h.2
  have g2 := h.1
  have h := h.2
  have g3 := h.1
  have h := h.2
  refine u_idiv (pc := 5) (dec_at lsk_150 (k := 3) rfl) g1 g2 g3 ?_
  refine u_ld (v := .ref 232) (pc := 6) (dec_at lsk_150 (k := 4) rfl) rfl ?_
  refine u_gI (z := 2) (pc := 7) (dec_at lsk_150 (k := 5) rfl) f_11_25 sx_232 rfl rfl ?_
  have g4 := h.1
  have h := h.2
  refine u_irem (pc := 10) (dec_at lsk_150 (k := 6) rfl) g4 g2 g3 ?_
  refine u_rI (pc := 11) (dec_at lsk_150 (k := 7) rfl) rfl ?_
  refine u_sto (lv' := [.ref 231, iV l1, iV l2, iV ((l2.tdiv (u.1 232 2)).tmod (u.1 232 2)), .retAddr 0, .retAddr 0, .retAddr 0, .retAddr 0, .retAddr 0]) (pc := 8) (dec_at lsk_167 (k := 4) rfl) rfl ?_
  refine u_ld (v := .ref 231) (pc := 9) (dec_at lsk_167 (k := 5) rfl) rfl ?_
  refine u_gS (o := 24) (p := 255) (pc := 10) (dec_at lsk_167 (k := 6) rfl) f_10_21 sx_231 rfl rfl ?_
  refine u_gS (o := 3) (p := 258) (pc := 13) (dec_at lsk_167 (k := 7) rfl) f_10_107 sx_255 rfl rfl ?_
  refine u_ld (v := iV l1) (pc := 16) (dec_at lsk_167 (k := 8) rfl) rfl ?_
  have g5 := h.1
  have h := h.2
  have g6 := h.1
  have h := h.2
  refine u_iald (pc := 17) (dec_at lsk_167 (k := 9) rfl) sx_258 g5 g6 ?_
  refine u_sto (lv' := [.ref 231, iV l1, iV l2, iV ((l2.tdiv (u.1 232 2)).tmod (u.1 232 2)), iV (u.1 258 l1), .retAddr 0, .retAddr 0, .retAddr 0, .retAddr 0]) (pc := 18) (dec_at lsk_167 (k := 10) rfl) rfl ?_
  refine u_ld (v := .ref 231) (pc := 20) (dec_at lsk_167 (k := 11) rfl) rfl ?_
  refine u_gS (o := 24) (p := 255) (pc := 21) (dec_at lsk_167 (k := 12) rfl) f_10_21 sx_231 rfl rfl ?_
  refine u_ld (v := .ref 231) (pc := 24) (dec_at lsk_167 (k := 13) rfl) rfl ?_
  refine u_gR (z := 3) (pc := 25) (dec_at lsk_167 (k := 14) rfl) f_10_28 sx_231 rfl rfl ?_
  refine u_ld (v := .ref 231) (pc := 28) (dec_at lsk_167 (k := 15) rfl) rfl ?_
  refine u_gS (o := 1) (p := 232) (pc := 29) (dec_at lsk_167 (k := 16) rfl) f_10_12 sx_231 rfl rfl ?_
  refine u_gS (o := 15) (p := 247) (pc := 32) (dec_at lsk_167 (k := 17) rfl) f_10_109 sx_232 rfl rfl ?_
  refine u_ld (v := iV l1) (pc := 35) (dec_at lsk_167 (k := 18) rfl) rfl ?_
  refine u_ld (v := iV ((l2.tdiv (u.1 232 2)).tmod (u.1 232 2))) (pc := 36) (dec_at lsk_167 (k := 19) rfl) rfl ?_
  refine u_ld (v := .ref 231) (pc := 37) (dec_at lsk_167 (k := 20) rfl) rfl ?_
  refine u_gS (o := 38) (p := 269) (pc := 38) (dec_at lsk_167 (k := 21) rfl) f_10_43 sx_231 rfl rfl ?_
  refine u_csV (As := [.ref 255, .ref (u.2 231 3), .ref 247, iV l1, iV ((l2.tdiv (u.1 232 2)).tmod (u.1 232 2)), .ref 269]) (st2 := []) (pc := 41) (dec_at lsk_167 (k := 22) rfl) m_10_112 (Or.inr rfl) rfl (Nat.le_of_ble_eq_true rfl) h (fun u7 h => ?_)
  refine u_ld (v := .ref 231) (pc := 44) (dec_at lsk_167 (k := 23) rfl) rfl ?_
  refine u_gS (o := 38) (p := 269) (pc := 45) (dec_at lsk_167 (k := 24) rfl) f_10_43 sx_231 rfl rfl ?_
  refine u_ld (v := iV (u.1 258 l1)) (pc := 48) (dec_at lsk_167 (k := 25) rfl) rfl ?_
  have g8 := h.1
  have h := h.2
  have g9 := h.1
  have h := h.2
  refine u_lald (pc := 50) (dec_at lsk_167 (k := 26) rfl) sx_269 g8 g9 ?_
  refine u_sto (lv' := [.ref 231, iV l1, iV l2, iV ((l2.tdiv (u.1 232 2)).tmod (u.1 232 2)), iV (u.1 258 l1), lV (u7.1 269 (u.1 258 l1)), .retAddr 0, .retAddr 0, .retAddr 0]) (pc := 51) (dec_at lsk_167 (k := 27) rfl) rfl ?_
  exact h
theorem k_167_53 {d : Nat} {Q : Int → uS → Prop} {u : uS} {l1 l2 l3 l4 l5 : Int} (h : (rL l5) ∧ (if l5 = 0 then (K_167 (d + 2) 118 [.ref 231, iV l1, iV l2, iV l3, .retAddr 0, iV (l4 - 1), .retAddr 0, .retAddr 0, .retAddr 0] [] u Q) else ((rI l2) ∧ ((rI (u.1 232 2)) ∧ (((u.1 232 2) ≠ 0) ∧ ((rI (l2.tmod (u.1 232 2))) ∧ (if ntz l5 = l2.tmod (u.1 232 2) then ((0 ≤ (l4 * 40) + (ntz l5)) ∧ (((l4 * 40) + (ntz l5) < 280) ∧ (∀ u10 : uS, u10 = wr u 270 ((l4 * 40) + (ntz l5)) 0 → (K_167 (d + 2) 53 [.ref 231, iV l1, iV l2, iV l3, iV l4, lV (land l5 (l5 - 1)), .retAddr 0, .retAddr 0, .retAddr 0] [] u10 Q)))) else ((0 ≤ (l4 * 40) + (ntz l5)) ∧ (((l4 * 40) + (ntz l5) < 280) ∧ (∀ u14 : uS, u14 = wr u 270 ((l4 * 40) + (ntz l5)) 9000000000000000000 → (K_167 (d + 2) 53 [.ref 231, iV l1, iV l2, iV l3, iV l4, lV (land l5 (l5 - 1)), .retAddr 0, .retAddr 0, .retAddr 0] [] u14 Q))))))))))) : K_167 (d + 2) 53 [.ref 231, iV l1, iV l2, iV l3, iV l4, lV l5, .retAddr 0, .retAddr 0, .retAddr 0] [] u Q := by
  unfold K_167
  refine u_ld (v := lV l5) (pc := 53) (dec_at lsk_167 (k := 28) rfl) rfl ?_
  refine u_cl (x := 0) (pc := 55) (dec_at lsk_167 (k := 29) rfl) rfl (by decide) ?_
  refine u_st (st' := [.int (lg_cmp (Int64.ofInt l5) (Int64.ofInt 0))]) (pc := 56) (dec_at lsk_167 (k := 30) rfl) rfl ?_
  have g1 := h.1
  have h := h.2
  refine u_ifT (pc := 57) (tgt := 112) (dec_at lsk_167 (k := 31) rfl) rfl (cl_eq g1 (by decide)) (fun e2 => ?_) (fun e2 => ?_)
  · have h := ifT e2 h
    refine u_ld (v := iV l4) (pc := 112) (dec_at lsk_167 (k := 59) rfl) rfl ?_
    refine u_ld (v := iV 1) (pc := 114) (dec_at lsk_167 (k := 60) rfl) rfl ?_
    refine u_isub (pc := 115) (dec_at lsk_167 (k := 61) rfl) ?_
    refine u_sto (lv' := [.ref 231, iV l1, iV l2, iV l3, iV l4, iV (l4 - 1), .retAddr 0, .retAddr 0, .retAddr 0]) (pc := 116) (dec_at lsk_167 (k := 62) rfl) rfl ?_
    exact u_weak (sbK (sbK (sbK (sbK (sbD (sbK (sbK (sbK (sbK sb0))))))))) h
  · have h := ifF e2 h
    refine u_ld (v := lV l5) (pc := 60) (dec_at lsk_167 (k := 32) rfl) rfl ?_
    refine u_csI (As := [lV l5]) (st2 := []) (pc := 62) (dec_at lsk_167 (k := 33) rfl) m_10_116 (Or.inl rfl) rfl (Nat.le_of_ble_eq_true rfl) (p_77 ) (fun r_ u_ h_ => ?_)
    rw [h_.1, h_.2]
    refine u_sto (lv' := [.ref 231, iV l1, iV l2, iV l3, iV l4, lV l5, .retAddr 0, iV (ntz l5), .retAddr 0]) (pc := 65) (dec_at lsk_167 (k := 34) rfl) rfl ?_
    refine u_ld (v := .ref 231) (pc := 67) (dec_at lsk_167 (k := 35) rfl) rfl ?_
    refine u_gS (o := 39) (p := 270) (pc := 68) (dec_at lsk_167 (k := 36) rfl) f_10_46 sx_231 rfl rfl ?_
    refine u_ld (v := iV l4) (pc := 71) (dec_at lsk_167 (k := 37) rfl) rfl ?_
    refine u_c (x := 40) (pc := 73) (dec_at lsk_167 (k := 38) rfl) rfl (by decide) ?_
    refine u_imul (pc := 75) (dec_at lsk_167 (k := 39) rfl) ?_
    refine u_ld (v := iV (ntz l5)) (pc := 76) (dec_at lsk_167 (k := 40) rfl) rfl ?_
    refine u_iadd (pc := 78) (dec_at lsk_167 (k := 41) rfl) ?_
    refine u_ld (v := iV (ntz l5)) (pc := 79) (dec_at lsk_167 (k := 42) rfl) rfl ?_
    refine u_ld (v := .ref 231) (pc := 81) (dec_at lsk_167 (k := 43) rfl) rfl ?_
    refine u_gS (o := 1) (p := 232) (pc := 82) (dec_at lsk_167 (k := 44) rfl) f_10_12 sx_231 rfl rfl ?_
    refine u_ld (v := iV l2) (pc := 85) (dec_at lsk_167 (k := 45) rfl) rfl ?_
    refine u_cvI (As := [iV l2]) (rb := 232) (st2 := [iV (ntz l5), iV ((l4 * 40) + (ntz l5)), .ref 270]) (pc := 86) (dec_at lsk_167 (k := 46) rfl) m_10_59 (Or.inl rfl) rfl (Nat.le_of_ble_eq_true rfl) sx_232 me_151 rfl ?_ (fun _ _ h_ => h_)
    refine u_of me_151 (Nat.le_of_ble_eq_true rfl) ?_
    refine u_ld (v := iV l2) (pc := 0) (dec_at lsk_151 (k := 0) rfl) rfl ?_
    refine u_ld (v := .ref 232) (pc := 1) (dec_at lsk_151 (k := 1) rfl) rfl ?_
    refine u_gI (z := 2) (pc := 2) (dec_at lsk_151 (k := 2) rfl) f_11_25 sx_232 rfl rfl ?_
    have g3 := h.1
    have h := h.2
    have g4 := h.1
    have h := h.2
    have g5 := h.1
    have h := h.2
    refine u_irem (pc := 5) (dec_at lsk_151 (k := 3) rfl) g3 g4 g5 ?_
    refine u_rI (pc := 6) (dec_at lsk_151 (k := 4) rfl) rfl ?_
    have g6 := h.1
    have h := h.2
    refine u_icF (pc := 89) (tgt := 96) (dec_at lsk_167 (k := 47) rfl) rfl (ci_ne (ri_ntz _) g6) (fun e7 => ?_) (fun e7 => ?_)
    · have h := ifT e7 h
      refine u_cl (x := 0) (pc := 92) (dec_at lsk_167 (k := 48) rfl) rfl (by decide) ?_
      refine u_goto (pc := 93) (tgt := 99) (dec_at lsk_167 (k := 49) rfl) rfl ?_
      have g8 := h.1
      have h := h.2
      have g9 := h.1
      have h := h.2
      refine u_last (pc := 99) (dec_at lsk_167 (k := 51) rfl) sx_270 g8 g9 (fun u10 e11 => ?_)
      have h := h u10 e11
      refine u_ld (v := lV l5) (pc := 100) (dec_at lsk_167 (k := 52) rfl) rfl ?_
      refine u_ld (v := lV l5) (pc := 102) (dec_at lsk_167 (k := 53) rfl) rfl ?_
      refine u_cl (x := 1) (pc := 104) (dec_at lsk_167 (k := 54) rfl) rfl (by decide) ?_
      refine u_lsub (pc := 105) (dec_at lsk_167 (k := 55) rfl) ?_
      refine u_land (pc := 106) (dec_at lsk_167 (k := 56) rfl) ?_
      refine u_sto (lv' := [.ref 231, iV l1, iV l2, iV l3, iV l4, lV (land l5 (l5 - 1)), .retAddr 0, iV (ntz l5), .retAddr 0]) (pc := 107) (dec_at lsk_167 (k := 57) rfl) rfl ?_
      refine u_goto (pc := 109) (tgt := 53) (dec_at lsk_167 (k := 58) rfl) rfl ?_
      exact u_weak (sbK (sbK (sbK (sbK (sbK (sbK (sbK (sbD (sbK sb0))))))))) h
    · have h := ifF e7 h
      refine u_ldc2 (x := 9000000000000000000) (pc := 96) (dec_at lsk_167 (k := 50) rfl) con_10_122 (by decide) ?_
      have g12 := h.1
      have h := h.2
      have g13 := h.1
      have h := h.2
      refine u_last (pc := 99) (dec_at lsk_167 (k := 51) rfl) sx_270 g12 g13 (fun u14 e15 => ?_)
      have h := h u14 e15
      refine u_ld (v := lV l5) (pc := 100) (dec_at lsk_167 (k := 52) rfl) rfl ?_
      refine u_ld (v := lV l5) (pc := 102) (dec_at lsk_167 (k := 53) rfl) rfl ?_
      refine u_cl (x := 1) (pc := 104) (dec_at lsk_167 (k := 54) rfl) rfl (by decide) ?_
      refine u_lsub (pc := 105) (dec_at lsk_167 (k := 55) rfl) ?_
      refine u_land (pc := 106) (dec_at lsk_167 (k := 56) rfl) ?_
      refine u_sto (lv' := [.ref 231, iV l1, iV l2, iV l3, iV l4, lV (land l5 (l5 - 1)), .retAddr 0, iV (ntz l5), .retAddr 0]) (pc := 107) (dec_at lsk_167 (k := 57) rfl) rfl ?_
      refine u_goto (pc := 109) (tgt := 53) (dec_at lsk_167 (k := 58) rfl) rfl ?_
      exact u_weak (sbK (sbK (sbK (sbK (sbK (sbK (sbK (sbD (sbK sb0))))))))) h
theorem k_167_118 {d : Nat} {Q : Int → uS → Prop} {u : uS} {l1 l2 l3 l5 : Int} (h : (rI l5) ∧ (if l5 < 0 then ((0 ≤ l3) ∧ ((l3 < 280) ∧ ((0 ≤ l2) ∧ ((l2 < 16000) ∧ ((rL (u.1 270 l3)) ∧ ((rL (u.1 244 l2)) ∧ (if u.1 270 l3 = u.1 244 l2 then (Q 1 u) else (Q 0 u)))))))) else ((l5 < 7) ∧ (K_167 (d + 2) 132 [.ref 231, iV l1, iV l2, iV l3, .retAddr 0, iV l5, lV (u.1 269 l5), .retAddr 0, .retAddr 0] [] u Q)))) : K_167 (d + 2) 118 [.ref 231, iV l1, iV l2, iV l3, .retAddr 0, iV l5, .retAddr 0, .retAddr 0, .retAddr 0] [] u Q := by
  unfold K_167
  refine u_ld (v := iV l5) (pc := 118) (dec_at lsk_167 (k := 63) rfl) rfl ?_
  have g1 := h.1
  have h := h.2
  refine u_ifT (pc := 120) (tgt := 195) (dec_at lsk_167 (k := 64) rfl) rfl (c0_lt g1) (fun e2 => ?_) (fun e2 => ?_)
  · have h := ifT e2 h
    refine u_ld (v := .ref 231) (pc := 195) (dec_at lsk_167 (k := 104) rfl) rfl ?_
    refine u_gS (o := 39) (p := 270) (pc := 196) (dec_at lsk_167 (k := 105) rfl) f_10_46 sx_231 rfl rfl ?_
    refine u_ld (v := iV l3) (pc := 199) (dec_at lsk_167 (k := 106) rfl) rfl ?_
    have g3 := h.1
    have h := h.2
    have g4 := h.1
    have h := h.2
    refine u_lald (pc := 200) (dec_at lsk_167 (k := 107) rfl) sx_270 g3 g4 ?_
    refine u_ld (v := .ref 231) (pc := 201) (dec_at lsk_167 (k := 108) rfl) rfl ?_
    refine u_gS (o := 1) (p := 232) (pc := 202) (dec_at lsk_167 (k := 109) rfl) f_10_12 sx_231 rfl rfl ?_
    refine u_gS (o := 12) (p := 244) (pc := 205) (dec_at lsk_167 (k := 110) rfl) f_10_49 sx_232 rfl rfl ?_
    refine u_ld (v := iV l2) (pc := 208) (dec_at lsk_167 (k := 111) rfl) rfl ?_
    have g5 := h.1
    have h := h.2
    have g6 := h.1
    have h := h.2
    refine u_lald (pc := 209) (dec_at lsk_167 (k := 112) rfl) sx_244 g5 g6 ?_
    refine u_st (st' := [.int (lg_cmp (Int64.ofInt (u.1 270 l3)) (Int64.ofInt (u.1 244 l2)))]) (pc := 210) (dec_at lsk_167 (k := 113) rfl) rfl ?_
    have g7 := h.1
    have h := h.2
    have g8 := h.1
    have h := h.2
    refine u_ifF (pc := 211) (tgt := 218) (dec_at lsk_167 (k := 114) rfl) rfl (cl_ne g7 g8) (fun e9 => ?_) (fun e9 => ?_)
    · have h := ifT e9 h
      refine u_ld (v := iV 1) (pc := 214) (dec_at lsk_167 (k := 115) rfl) rfl ?_
      refine u_goto (pc := 215) (tgt := 219) (dec_at lsk_167 (k := 116) rfl) rfl ?_
      exact u_rZ (pc := 219) (dec_at lsk_167 (k := 118) rfl) rfl (by decide) h
    · have h := ifF e9 h
      refine u_ld (v := iV 0) (pc := 218) (dec_at lsk_167 (k := 117) rfl) rfl ?_
      exact u_rZ (pc := 219) (dec_at lsk_167 (k := 118) rfl) rfl (by decide) h
  · have h := ifF e2 h
    refine u_ld (v := .ref 231) (pc := 123) (dec_at lsk_167 (k := 65) rfl) rfl ?_
    refine u_gS (o := 38) (p := 269) (pc := 124) (dec_at lsk_167 (k := 66) rfl) f_10_43 sx_231 rfl rfl ?_
    refine u_ld (v := iV l5) (pc := 127) (dec_at lsk_167 (k := 67) rfl) rfl ?_
    have g10 := h.1
    have h := h.2
    refine u_lald (pc := 129) (dec_at lsk_167 (k := 68) rfl) sx_269 (Int.not_lt.mp e2) g10 ?_
    refine u_sto (lv' := [.ref 231, iV l1, iV l2, iV l3, .retAddr 0, iV l5, lV (u.1 269 l5), .retAddr 0, .retAddr 0]) (pc := 130) (dec_at lsk_167 (k := 69) rfl) rfl ?_
    exact h
theorem k_167_132 {d : Nat} {Q : Int → uS → Prop} {u : uS} {l1 l2 l3 l5 l6 : Int} (h : (rL l6) ∧ (if l6 = 0 then (K_167 (d + 2) 118 [.ref 231, iV l1, iV l2, iV l3, .retAddr 0, iV (l5 + (-1)), .retAddr 0, .retAddr 0, .retAddr 0] [] u Q) else ((0 ≤ l2) ∧ ((l2 < 16000) ∧ (cL (d + 2) 168 [.ref 231, iV l1, iV l5, iV (ntz l6), iV (u.1 245 l2)] u (fun r6 u5 => (0 ≤ (l5 * 40) + (ntz l6)) ∧ (((l5 * 40) + (ntz l6) < 280) ∧ (∀ u9 : uS, u9 = wr u5 270 ((l5 * 40) + (ntz l6)) r6 → (K_167 (d + 2) 132 [.ref 231, iV l1, iV l2, iV l3, .retAddr 0, iV l5, lV (land l6 (l6 - 1)), .retAddr 0, .retAddr 0] [] u9 Q))))))))) : K_167 (d + 2) 132 [.ref 231, iV l1, iV l2, iV l3, .retAddr 0, iV l5, lV l6, .retAddr 0, .retAddr 0] [] u Q := by
  unfold K_167
  refine u_ld (v := lV l6) (pc := 132) (dec_at lsk_167 (k := 70) rfl) rfl ?_
  refine u_cl (x := 0) (pc := 134) (dec_at lsk_167 (k := 71) rfl) rfl (by decide) ?_
  refine u_st (st' := [.int (lg_cmp (Int64.ofInt l6) (Int64.ofInt 0))]) (pc := 135) (dec_at lsk_167 (k := 72) rfl) rfl ?_
  have g1 := h.1
  have h := h.2
  refine u_ifT (pc := 136) (tgt := 189) (dec_at lsk_167 (k := 73) rfl) rfl (cl_eq g1 (by decide)) (fun e2 => ?_) (fun e2 => ?_)
  · have h := ifT e2 h
    refine u_inc (lv' := [.ref 231, iV l1, iV l2, iV l3, .retAddr 0, iV (l5 + (-1)), lV l6, .retAddr 0, .retAddr 0]) (pc := 189) (dec_at lsk_167 (k := 102) rfl) rfl (by decide) rfl ?_
    refine u_goto (pc := 192) (tgt := 118) (dec_at lsk_167 (k := 103) rfl) rfl ?_
    exact u_weak (sbK (sbK (sbK (sbK (sbK (sbK (sbD (sbK (sbK sb0))))))))) h
  · have h := ifF e2 h
    refine u_ld (v := lV l6) (pc := 139) (dec_at lsk_167 (k := 74) rfl) rfl ?_
    refine u_csI (As := [lV l6]) (st2 := []) (pc := 141) (dec_at lsk_167 (k := 75) rfl) m_10_116 (Or.inl rfl) rfl (Nat.le_of_ble_eq_true rfl) (p_77 ) (fun r_ u_ h_ => ?_)
    rw [h_.1, h_.2]
    refine u_sto (lv' := [.ref 231, iV l1, iV l2, iV l3, .retAddr 0, iV l5, lV l6, .retAddr 0, iV (ntz l6)]) (pc := 144) (dec_at lsk_167 (k := 76) rfl) rfl ?_
    refine u_ld (v := .ref 231) (pc := 146) (dec_at lsk_167 (k := 77) rfl) rfl ?_
    refine u_gS (o := 39) (p := 270) (pc := 147) (dec_at lsk_167 (k := 78) rfl) f_10_46 sx_231 rfl rfl ?_
    refine u_ld (v := iV l5) (pc := 150) (dec_at lsk_167 (k := 79) rfl) rfl ?_
    refine u_c (x := 40) (pc := 152) (dec_at lsk_167 (k := 80) rfl) rfl (by decide) ?_
    refine u_imul (pc := 154) (dec_at lsk_167 (k := 81) rfl) ?_
    refine u_ld (v := iV (ntz l6)) (pc := 155) (dec_at lsk_167 (k := 82) rfl) rfl ?_
    refine u_iadd (pc := 157) (dec_at lsk_167 (k := 83) rfl) ?_
    refine u_ld (v := .ref 231) (pc := 158) (dec_at lsk_167 (k := 84) rfl) rfl ?_
    refine u_ld (v := iV l1) (pc := 159) (dec_at lsk_167 (k := 85) rfl) rfl ?_
    refine u_ld (v := iV l5) (pc := 160) (dec_at lsk_167 (k := 86) rfl) rfl ?_
    refine u_ld (v := iV (ntz l6)) (pc := 162) (dec_at lsk_167 (k := 87) rfl) rfl ?_
    refine u_ld (v := .ref 231) (pc := 164) (dec_at lsk_167 (k := 88) rfl) rfl ?_
    refine u_gS (o := 1) (p := 232) (pc := 165) (dec_at lsk_167 (k := 89) rfl) f_10_12 sx_231 rfl rfl ?_
    refine u_gS (o := 13) (p := 245) (pc := 168) (dec_at lsk_167 (k := 90) rfl) f_10_56 sx_232 rfl rfl ?_
    refine u_ld (v := iV l2) (pc := 171) (dec_at lsk_167 (k := 91) rfl) rfl ?_
    have g3 := h.1
    have h := h.2
    have g4 := h.1
    have h := h.2
    refine u_iald (pc := 172) (dec_at lsk_167 (k := 92) rfl) sx_245 g3 g4 ?_
    refine u_cvL (As := [iV l1, iV l5, iV (ntz l6), iV (u.1 245 l2)]) (rb := 231) (st2 := [iV ((l5 * 40) + (ntz l6)), .ref 270]) (pc := 173) (dec_at lsk_167 (k := 93) rfl) m_10_124 (Or.inl rfl) rfl (Nat.le_of_ble_eq_true rfl) sx_231 me_168 rfl h (fun r6 u5 h => ?_)
    have g7 := h.1
    have h := h.2
    have g8 := h.1
    have h := h.2
    refine u_last (pc := 176) (dec_at lsk_167 (k := 94) rfl) sx_270 g7 g8 (fun u9 e10 => ?_)
    have h := h u9 e10
    refine u_ld (v := lV l6) (pc := 177) (dec_at lsk_167 (k := 95) rfl) rfl ?_
    refine u_ld (v := lV l6) (pc := 179) (dec_at lsk_167 (k := 96) rfl) rfl ?_
    refine u_cl (x := 1) (pc := 181) (dec_at lsk_167 (k := 97) rfl) rfl (by decide) ?_
    refine u_lsub (pc := 182) (dec_at lsk_167 (k := 98) rfl) ?_
    refine u_land (pc := 183) (dec_at lsk_167 (k := 99) rfl) ?_
    refine u_sto (lv' := [.ref 231, iV l1, iV l2, iV l3, .retAddr 0, iV l5, lV (land l6 (l6 - 1)), .retAddr 0, iV (ntz l6)]) (pc := 184) (dec_at lsk_167 (k := 100) rfl) rfl ?_
    refine u_goto (pc := 186) (tgt := 132) (dec_at lsk_167 (k := 101) rfl) rfl ?_
    exact u_weak (sbK (sbK (sbK (sbK (sbK (sbK (sbK (sbK (sbD sb0))))))))) h
/-- method 168 -/
def K_168 (d pc : Nat) (lv : ev_L) (st : List Value) (u : uS) (Q : Int → uS → Prop) : Prop := okU d 10 14 false (some .long) prog_12_method_9_code (qL Q) pc lv st u
theorem e_168 {d : Nat} {Q : Int → uS → Prop} {u : uS} {l1 l2 l3 l4 : Int} (h : (0 ≤ (l1 * 6) + l2) ∧ (((l1 * 6) + l2 < 180) ∧ ((rI (u.1 259 ((l1 * 6) + l2))) ∧ (if u.1 259 ((l1 * 6) + l2) < 100 then ((isO (u.2 231 3) 5) ∧ ((0 ≤ (l3 * 10) + (u.1 259 ((l1 * 6) + l2))) ∧ (((l3 * 10) + (u.1 259 ((l1 * 6) + l2)) < 400) ∧ ((0 ≤ ((l2 + 1) * 40) + (u.1 ((u.2 231 3) + 1) ((l3 * 10) + (u.1 259 ((l1 * 6) + l2))))) ∧ ((((l2 + 1) * 40) + (u.1 ((u.2 231 3) + 1) ((l3 * 10) + (u.1 259 ((l1 * 6) + l2)))) < 280) ∧ ((cn 9000000000000000000 1) ∧ ((cn 9000000000000000000 (u.1 270 (((l2 + 1) * 40) + (u.1 ((u.2 231 3) + 1) ((l3 * 10) + (u.1 259 ((l1 * 6) + l2))))))) ∧ (Q (pl 9000000000000000000 1 (u.1 270 (((l2 + 1) * 40) + (u.1 ((u.2 231 3) + 1) ((l3 * 10) + (u.1 259 ((l1 * 6) + l2))))))) u)))))))) else ((0 ≤ (((u.1 259 ((l1 * 6) + l2)) - 100) * 40) + l3) ∧ (((((u.1 259 ((l1 * 6) + l2)) - 100) * 40) + l3 < 400) ∧ (K_168 (d + 2) 77 [.ref 231, .retAddr 0, .retAddr 0, iV l3, iV l4, .retAddr 0, iV ((l2 + 1) * 40), iV ((u.1 259 ((l1 * 6) + l2)) - 100), lV 9000000000000000000, .retAddr 0, lV (u.1 247 ((((u.1 259 ((l1 * 6) + l2)) - 100) * 40) + l3)), .retAddr 0, .retAddr 0, .retAddr 0] [] u Q))))))) : cL (d + 3) 168 [.ref 231, iV l1, iV l2, iV l3, iV l4] u Q := by
  refine u_of me_168 (Nat.le_of_ble_eq_true rfl) ?_
  refine u_ld (v := .ref 231) (pc := 0) (dec_at lsk_168 (k := 0) rfl) rfl ?_
  refine u_gS (o := 24) (p := 255) (pc := 1) (dec_at lsk_168 (k := 1) rfl) f_10_21 sx_231 rfl rfl ?_
  refine u_ld (v := iV l1) (pc := 4) (dec_at lsk_168 (k := 2) rfl) rfl ?_
  refine u_ld (v := iV l2) (pc := 5) (dec_at lsk_168 (k := 3) rfl) rfl ?_
  refine u_cvI (As := [iV l1, iV l2]) (rb := 255) (st2 := []) (pc := 6) (dec_at lsk_168 (k := 4) rfl) m_10_128 (Or.inl rfl) rfl (Nat.le_of_ble_eq_true rfl) sx_255 me_42 rfl ?_ (fun _ _ h_ => h_)
  refine u_of me_42 (Nat.le_of_ble_eq_true rfl) ?_
  refine u_ld (v := .ref 255) (pc := 0) (dec_at lsk_42 (k := 0) rfl) rfl ?_
  refine u_gS (o := 4) (p := 259) (pc := 1) (dec_at lsk_42 (k := 1) rfl) f_2_21 sx_255 rfl rfl ?_
  refine u_ld (v := iV l1) (pc := 4) (dec_at lsk_42 (k := 2) rfl) rfl ?_
  refine u_c (x := 6) (pc := 5) (dec_at lsk_42 (k := 3) rfl) rfl (by decide) ?_
  refine u_imul (pc := 7) (dec_at lsk_42 (k := 4) rfl) ?_
  refine u_ld (v := iV l2) (pc := 8) (dec_at lsk_42 (k := 5) rfl) rfl ?_
  refine u_iadd (pc := 9) (dec_at lsk_42 (k := 6) rfl) ?_
  have g1 := h.1
  have h := h.2
  have g2 := h.1
  have h := h.2
  refine u_iald (pc := 10) (dec_at lsk_42 (k := 7) rfl) sx_259 g1 g2 ?_
  refine u_rI (pc := 11) (dec_at lsk_42 (k := 8) rfl) rfl ?_
  refine u_sto (lv' := [.ref 231, iV l1, iV l2, iV l3, iV l4, iV (u.1 259 ((l1 * 6) + l2)), .retAddr 0, .retAddr 0, .retAddr 0, .retAddr 0, .retAddr 0, .retAddr 0, .retAddr 0, .retAddr 0]) (pc := 9) (dec_at lsk_168 (k := 5) rfl) rfl ?_
  refine u_ld (v := iV l2) (pc := 11) (dec_at lsk_168 (k := 6) rfl) rfl ?_
  refine u_ld (v := iV 1) (pc := 12) (dec_at lsk_168 (k := 7) rfl) rfl ?_
  refine u_iadd (pc := 13) (dec_at lsk_168 (k := 8) rfl) ?_
  refine u_c (x := 40) (pc := 14) (dec_at lsk_168 (k := 9) rfl) rfl (by decide) ?_
  refine u_imul (pc := 16) (dec_at lsk_168 (k := 10) rfl) ?_
  refine u_sto (lv' := [.ref 231, iV l1, iV l2, iV l3, iV l4, iV (u.1 259 ((l1 * 6) + l2)), iV ((l2 + 1) * 40), .retAddr 0, .retAddr 0, .retAddr 0, .retAddr 0, .retAddr 0, .retAddr 0, .retAddr 0]) (pc := 17) (dec_at lsk_168 (k := 11) rfl) rfl ?_
  refine u_ld (v := iV (u.1 259 ((l1 * 6) + l2))) (pc := 19) (dec_at lsk_168 (k := 12) rfl) rfl ?_
  refine u_c (x := 100) (pc := 21) (dec_at lsk_168 (k := 13) rfl) rfl (by decide) ?_
  have g3 := h.1
  have h := h.2
  refine u_icF (pc := 23) (tgt := 49) (dec_at lsk_168 (k := 14) rfl) rfl (ci_ge g3 (by decide)) (fun e4 => ?_) (fun e4 => ?_)
  · have h := ifT e4 h
    refine u_cl (x := 1) (pc := 26) (dec_at lsk_168 (k := 15) rfl) rfl (by decide) ?_
    refine u_ld (v := .ref 231) (pc := 27) (dec_at lsk_168 (k := 16) rfl) rfl ?_
    refine u_gS (o := 39) (p := 270) (pc := 28) (dec_at lsk_168 (k := 17) rfl) f_10_46 sx_231 rfl rfl ?_
    refine u_ld (v := iV ((l2 + 1) * 40)) (pc := 31) (dec_at lsk_168 (k := 18) rfl) rfl ?_
    refine u_ld (v := .ref 231) (pc := 33) (dec_at lsk_168 (k := 19) rfl) rfl ?_
    refine u_gR (z := 3) (pc := 34) (dec_at lsk_168 (k := 20) rfl) f_10_28 sx_231 rfl rfl ?_
    refine u_ld (v := iV l3) (pc := 37) (dec_at lsk_168 (k := 21) rfl) rfl ?_
    refine u_ld (v := iV (u.1 259 ((l1 * 6) + l2))) (pc := 38) (dec_at lsk_168 (k := 22) rfl) rfl ?_
    have g5 := h.1
    have h := h.2
    refine u_cvI (As := [iV l3, iV (u.1 259 ((l1 * 6) + l2))]) (rb := u.2 231 3) (st2 := [iV ((l2 + 1) * 40), .ref 270, lV 1]) (pc := 40) (dec_at lsk_168 (k := 23) rfl) m_10_131 (Or.inl rfl) rfl (Nat.le_of_ble_eq_true rfl) g5 me_75 rfl ?_ (fun _ _ h_ => h_)
    refine u_of me_75 (Nat.le_of_ble_eq_true rfl) ?_
    refine u_ld (v := .ref (u.2 231 3)) (pc := 0) (dec_at lsk_75 (k := 0) rfl) rfl ?_
    refine u_gS (o := 1) (p := (u.2 231 3) + 1) (pc := 1) (dec_at lsk_75 (k := 1) rfl) f_5_15 g5 rfl rfl ?_
    refine u_ld (v := iV l3) (pc := 4) (dec_at lsk_75 (k := 2) rfl) rfl ?_
    refine u_c (x := 10) (pc := 5) (dec_at lsk_75 (k := 3) rfl) rfl (by decide) ?_
    refine u_imul (pc := 7) (dec_at lsk_75 (k := 4) rfl) ?_
    refine u_ld (v := iV (u.1 259 ((l1 * 6) + l2))) (pc := 8) (dec_at lsk_75 (k := 5) rfl) rfl ?_
    refine u_iadd (pc := 9) (dec_at lsk_75 (k := 6) rfl) ?_
    have g6 := h.1
    have h := h.2
    have g7 := h.1
    have h := h.2
    refine u_iald (pc := 10) (dec_at lsk_75 (k := 7) rfl) (sa_5_2 g5) g6 g7 ?_
    refine u_rI (pc := 11) (dec_at lsk_75 (k := 8) rfl) rfl ?_
    refine u_iadd (pc := 43) (dec_at lsk_168 (k := 24) rfl) ?_
    have g8 := h.1
    have h := h.2
    have g9 := h.1
    have h := h.2
    refine u_lald (pc := 44) (dec_at lsk_168 (k := 25) rfl) sx_270 g8 g9 ?_
    have g10 := h.1
    have h := h.2
    have g11 := h.1
    have h := h.2
    refine u_csL (As := [lV 1, lV (u.1 270 (((l2 + 1) * 40) + (u.1 ((u.2 231 3) + 1) ((l3 * 10) + (u.1 259 ((l1 * 6) + l2))))))]) (st2 := []) (pc := 45) (dec_at lsk_168 (k := 26) rfl) m_10_134 (Or.inr rfl) rfl (Nat.le_of_ble_eq_true rfl) (p_51 g10 g11) (fun r_ u_ h_ => ?_)
    rw [h_.1, h_.2]
    exact u_rL (pc := 48) (dec_at lsk_168 (k := 27) rfl) rfl h
  · have h := ifF e4 h
    refine u_ld (v := iV (u.1 259 ((l1 * 6) + l2))) (pc := 49) (dec_at lsk_168 (k := 28) rfl) rfl ?_
    refine u_c (x := 100) (pc := 51) (dec_at lsk_168 (k := 29) rfl) rfl (by decide) ?_
    refine u_isub (pc := 53) (dec_at lsk_168 (k := 30) rfl) ?_
    refine u_sto (lv' := [.ref 231, iV l1, iV l2, iV l3, iV l4, iV (u.1 259 ((l1 * 6) + l2)), iV ((l2 + 1) * 40), iV ((u.1 259 ((l1 * 6) + l2)) - 100), .retAddr 0, .retAddr 0, .retAddr 0, .retAddr 0, .retAddr 0, .retAddr 0]) (pc := 54) (dec_at lsk_168 (k := 31) rfl) rfl ?_
    refine u_ldc2 (x := 9000000000000000000) (pc := 56) (dec_at lsk_168 (k := 32) rfl) con_10_122 (by decide) ?_
    refine u_sto (lv' := [.ref 231, iV l1, iV l2, iV l3, iV l4, iV (u.1 259 ((l1 * 6) + l2)), iV ((l2 + 1) * 40), iV ((u.1 259 ((l1 * 6) + l2)) - 100), lV 9000000000000000000, .retAddr 0, .retAddr 0, .retAddr 0, .retAddr 0, .retAddr 0]) (pc := 59) (dec_at lsk_168 (k := 33) rfl) rfl ?_
    refine u_ld (v := .ref 231) (pc := 61) (dec_at lsk_168 (k := 34) rfl) rfl ?_
    refine u_gS (o := 1) (p := 232) (pc := 62) (dec_at lsk_168 (k := 35) rfl) f_10_12 sx_231 rfl rfl ?_
    refine u_gS (o := 15) (p := 247) (pc := 65) (dec_at lsk_168 (k := 36) rfl) f_10_109 sx_232 rfl rfl ?_
    refine u_ld (v := iV ((u.1 259 ((l1 * 6) + l2)) - 100)) (pc := 68) (dec_at lsk_168 (k := 37) rfl) rfl ?_
    refine u_ld (v := iV l3) (pc := 70) (dec_at lsk_168 (k := 38) rfl) rfl ?_
    refine u_csI (As := [iV ((u.1 259 ((l1 * 6) + l2)) - 100), iV l3]) (st2 := [.ref 247]) (pc := 71) (dec_at lsk_168 (k := 39) rfl) m_10_138 (Or.inr rfl) rfl (Nat.le_of_ble_eq_true rfl) ?_ (fun _ _ h_ => h_)
    refine u_of me_141 (Nat.le_of_ble_eq_true rfl) ?_
    refine u_ld (v := iV ((u.1 259 ((l1 * 6) + l2)) - 100)) (pc := 0) (dec_at lsk_141 (k := 0) rfl) rfl ?_
    refine u_c (x := 40) (pc := 1) (dec_at lsk_141 (k := 1) rfl) rfl (by decide) ?_
    refine u_imul (pc := 3) (dec_at lsk_141 (k := 2) rfl) ?_
    refine u_ld (v := iV l3) (pc := 4) (dec_at lsk_141 (k := 3) rfl) rfl ?_
    refine u_iadd (pc := 5) (dec_at lsk_141 (k := 4) rfl) ?_
    refine u_rI (pc := 6) (dec_at lsk_141 (k := 5) rfl) rfl ?_
    have g12 := h.1
    have h := h.2
    have g13 := h.1
    have h := h.2
    refine u_lald (pc := 74) (dec_at lsk_168 (k := 40) rfl) sx_247 g12 g13 ?_
    refine u_sto (lv' := [.ref 231, iV l1, iV l2, iV l3, iV l4, iV (u.1 259 ((l1 * 6) + l2)), iV ((l2 + 1) * 40), iV ((u.1 259 ((l1 * 6) + l2)) - 100), lV 9000000000000000000, .retAddr 0, lV (u.1 247 ((((u.1 259 ((l1 * 6) + l2)) - 100) * 40) + l3)), .retAddr 0, .retAddr 0, .retAddr 0]) (pc := 75) (dec_at lsk_168 (k := 41) rfl) rfl ?_
    exact u_weak (sbK (sbD (sbD (sbK (sbK (sbD (sbK (sbK (sbK (sbK (sbK (sbK (sbK (sbK sb0)))))))))))))) h
theorem k_168_77 {d : Nat} {Q : Int → uS → Prop} {u : uS} {l3 l4 l6 l7 l8 l10 : Int} (h : (rL l10) ∧ (if l10 = 0 then (Q l8 u) else ((0 ≤ (((l7 * (u.1 232 2)) + l3) * (u.1 232 2)) + (ntz l10)) ∧ (((((l7 * (u.1 232 2)) + l3) * (u.1 232 2)) + (ntz l10) < 16000) ∧ ((rI (u.1 245 ((((l7 * (u.1 232 2)) + l3) * (u.1 232 2)) + (ntz l10)))) ∧ ((rI l4) ∧ (if u.1 245 ((((l7 * (u.1 232 2)) + l3) * (u.1 232 2)) + (ntz l10)) < l4 then ((0 ≤ l6 + (ntz l10)) ∧ ((l6 + (ntz l10) < 280) ∧ ((cn 9000000000000000000 (u.1 244 ((((l7 * (u.1 232 2)) + l3) * (u.1 232 2)) + (ntz l10)))) ∧ ((cn 9000000000000000000 (u.1 270 (l6 + (ntz l10)))) ∧ ((rL l8) ∧ (K_168 (d + 2) 77 [.ref 231, .retAddr 0, .retAddr 0, iV l3, iV l4, .retAddr 0, iV l6, iV l7, lV (min l8 (pl 9000000000000000000 (u.1 244 ((((l7 * (u.1 232 2)) + l3) * (u.1 232 2)) + (ntz l10))) (u.1 270 (l6 + (ntz l10))))), .retAddr 0, lV (land l10 (l10 - 1)), .retAddr 0, .retAddr 0, .retAddr 0] [] u Q)))))) else (K_168 (d + 2) 77 [.ref 231, .retAddr 0, .retAddr 0, iV l3, iV l4, .retAddr 0, iV l6, iV l7, lV l8, .retAddr 0, lV (land l10 (l10 - 1)), .retAddr 0, .retAddr 0, .retAddr 0] [] u Q)))))))) : K_168 (d + 2) 77 [.ref 231, .retAddr 0, .retAddr 0, iV l3, iV l4, .retAddr 0, iV l6, iV l7, lV l8, .retAddr 0, lV l10, .retAddr 0, .retAddr 0, .retAddr 0] [] u Q := by
  unfold K_168
  refine u_ld (v := lV l10) (pc := 77) (dec_at lsk_168 (k := 42) rfl) rfl ?_
  refine u_cl (x := 0) (pc := 79) (dec_at lsk_168 (k := 43) rfl) rfl (by decide) ?_
  refine u_st (st' := [.int (lg_cmp (Int64.ofInt l10) (Int64.ofInt 0))]) (pc := 80) (dec_at lsk_168 (k := 44) rfl) rfl ?_
  have g1 := h.1
  have h := h.2
  refine u_ifT (pc := 81) (tgt := 162) (dec_at lsk_168 (k := 45) rfl) rfl (cl_eq g1 (by decide)) (fun e2 => ?_) (fun e2 => ?_)
  · have h := ifT e2 h
    refine u_ld (v := lV l8) (pc := 162) (dec_at lsk_168 (k := 85) rfl) rfl ?_
    exact u_rL (pc := 164) (dec_at lsk_168 (k := 86) rfl) rfl h
  · have h := ifF e2 h
    refine u_ld (v := lV l10) (pc := 84) (dec_at lsk_168 (k := 46) rfl) rfl ?_
    refine u_csI (As := [lV l10]) (st2 := []) (pc := 86) (dec_at lsk_168 (k := 47) rfl) m_10_116 (Or.inl rfl) rfl (Nat.le_of_ble_eq_true rfl) (p_77 ) (fun r_ u_ h_ => ?_)
    rw [h_.1, h_.2]
    refine u_sto (lv' := [.ref 231, .retAddr 0, .retAddr 0, iV l3, iV l4, .retAddr 0, iV l6, iV l7, lV l8, .retAddr 0, lV l10, .retAddr 0, iV (ntz l10), .retAddr 0]) (pc := 89) (dec_at lsk_168 (k := 48) rfl) rfl ?_
    refine u_ld (v := .ref 231) (pc := 91) (dec_at lsk_168 (k := 49) rfl) rfl ?_
    refine u_gS (o := 1) (p := 232) (pc := 92) (dec_at lsk_168 (k := 50) rfl) f_10_12 sx_231 rfl rfl ?_
    refine u_ld (v := iV l7) (pc := 95) (dec_at lsk_168 (k := 51) rfl) rfl ?_
    refine u_ld (v := iV l3) (pc := 97) (dec_at lsk_168 (k := 52) rfl) rfl ?_
    refine u_ld (v := iV (ntz l10)) (pc := 98) (dec_at lsk_168 (k := 53) rfl) rfl ?_
    refine u_cvI (As := [iV l7, iV l3, iV (ntz l10)]) (rb := 232) (st2 := []) (pc := 100) (dec_at lsk_168 (k := 54) rfl) m_10_141 (Or.inl rfl) rfl (Nat.le_of_ble_eq_true rfl) sx_232 me_147 rfl ?_ (fun _ _ h_ => h_)
    refine u_of me_147 (Nat.le_of_ble_eq_true rfl) ?_
    refine u_ld (v := iV l7) (pc := 0) (dec_at lsk_147 (k := 0) rfl) rfl ?_
    refine u_ld (v := .ref 232) (pc := 1) (dec_at lsk_147 (k := 1) rfl) rfl ?_
    refine u_gI (z := 2) (pc := 2) (dec_at lsk_147 (k := 2) rfl) f_11_25 sx_232 rfl rfl ?_
    refine u_imul (pc := 5) (dec_at lsk_147 (k := 3) rfl) ?_
    refine u_ld (v := iV l3) (pc := 6) (dec_at lsk_147 (k := 4) rfl) rfl ?_
    refine u_iadd (pc := 7) (dec_at lsk_147 (k := 5) rfl) ?_
    refine u_ld (v := .ref 232) (pc := 8) (dec_at lsk_147 (k := 6) rfl) rfl ?_
    refine u_gI (z := 2) (pc := 9) (dec_at lsk_147 (k := 7) rfl) f_11_25 sx_232 rfl rfl ?_
    refine u_imul (pc := 12) (dec_at lsk_147 (k := 8) rfl) ?_
    refine u_ld (v := iV (ntz l10)) (pc := 13) (dec_at lsk_147 (k := 9) rfl) rfl ?_
    refine u_iadd (pc := 14) (dec_at lsk_147 (k := 10) rfl) ?_
    refine u_rI (pc := 15) (dec_at lsk_147 (k := 11) rfl) rfl ?_
    refine u_sto (lv' := [.ref 231, .retAddr 0, .retAddr 0, iV l3, iV l4, .retAddr 0, iV l6, iV l7, lV l8, .retAddr 0, lV l10, .retAddr 0, iV (ntz l10), iV ((((l7 * (u.1 232 2)) + l3) * (u.1 232 2)) + (ntz l10))]) (pc := 103) (dec_at lsk_168 (k := 55) rfl) rfl ?_
    refine u_ld (v := .ref 231) (pc := 105) (dec_at lsk_168 (k := 56) rfl) rfl ?_
    refine u_gS (o := 1) (p := 232) (pc := 106) (dec_at lsk_168 (k := 57) rfl) f_10_12 sx_231 rfl rfl ?_
    refine u_gS (o := 13) (p := 245) (pc := 109) (dec_at lsk_168 (k := 58) rfl) f_10_56 sx_232 rfl rfl ?_
    refine u_ld (v := iV ((((l7 * (u.1 232 2)) + l3) * (u.1 232 2)) + (ntz l10))) (pc := 112) (dec_at lsk_168 (k := 59) rfl) rfl ?_
    have g3 := h.1
    have h := h.2
    have g4 := h.1
    have h := h.2
    refine u_iald (pc := 114) (dec_at lsk_168 (k := 60) rfl) sx_245 g3 g4 ?_
    refine u_ld (v := iV l4) (pc := 115) (dec_at lsk_168 (k := 61) rfl) rfl ?_
    have g5 := h.1
    have h := h.2
    have g6 := h.1
    have h := h.2
    refine u_icF (pc := 117) (tgt := 150) (dec_at lsk_168 (k := 62) rfl) rfl (ci_ge g5 g6) (fun e7 => ?_) (fun e7 => ?_)
    · have h := ifT e7 h
      refine u_ld (v := lV l8) (pc := 120) (dec_at lsk_168 (k := 63) rfl) rfl ?_
      refine u_ld (v := .ref 231) (pc := 122) (dec_at lsk_168 (k := 64) rfl) rfl ?_
      refine u_gS (o := 1) (p := 232) (pc := 123) (dec_at lsk_168 (k := 65) rfl) f_10_12 sx_231 rfl rfl ?_
      refine u_gS (o := 12) (p := 244) (pc := 126) (dec_at lsk_168 (k := 66) rfl) f_10_49 sx_232 rfl rfl ?_
      refine u_ld (v := iV ((((l7 * (u.1 232 2)) + l3) * (u.1 232 2)) + (ntz l10))) (pc := 129) (dec_at lsk_168 (k := 67) rfl) rfl ?_
      refine u_lald (pc := 131) (dec_at lsk_168 (k := 68) rfl) sx_244 g3 g4 ?_
      refine u_ld (v := .ref 231) (pc := 132) (dec_at lsk_168 (k := 69) rfl) rfl ?_
      refine u_gS (o := 39) (p := 270) (pc := 133) (dec_at lsk_168 (k := 70) rfl) f_10_46 sx_231 rfl rfl ?_
      refine u_ld (v := iV l6) (pc := 136) (dec_at lsk_168 (k := 71) rfl) rfl ?_
      refine u_ld (v := iV (ntz l10)) (pc := 138) (dec_at lsk_168 (k := 72) rfl) rfl ?_
      refine u_iadd (pc := 140) (dec_at lsk_168 (k := 73) rfl) ?_
      have g8 := h.1
      have h := h.2
      have g9 := h.1
      have h := h.2
      refine u_lald (pc := 141) (dec_at lsk_168 (k := 74) rfl) sx_270 g8 g9 ?_
      have g10 := h.1
      have h := h.2
      have g11 := h.1
      have h := h.2
      refine u_csL (As := [lV (u.1 244 ((((l7 * (u.1 232 2)) + l3) * (u.1 232 2)) + (ntz l10))), lV (u.1 270 (l6 + (ntz l10)))]) (st2 := [lV l8]) (pc := 142) (dec_at lsk_168 (k := 75) rfl) m_10_134 (Or.inr rfl) rfl (Nat.le_of_ble_eq_true rfl) (p_51 g10 g11) (fun r_ u_ h_ => ?_)
      rw [h_.1, h_.2]
      have g12 := h.1
      have h := h.2
      refine u_minL (pc := 145) (dec_at lsk_168 (k := 76) rfl) m_10_145 g12 (rl_cn9 (cn_pl g10 g11)) (Nat.le_of_ble_eq_true rfl) ?_
      refine u_sto (lv' := [.ref 231, .retAddr 0, .retAddr 0, iV l3, iV l4, .retAddr 0, iV l6, iV l7, lV (min l8 (pl 9000000000000000000 (u.1 244 ((((l7 * (u.1 232 2)) + l3) * (u.1 232 2)) + (ntz l10))) (u.1 270 (l6 + (ntz l10))))), .retAddr 0, lV l10, .retAddr 0, iV (ntz l10), iV ((((l7 * (u.1 232 2)) + l3) * (u.1 232 2)) + (ntz l10))]) (pc := 148) (dec_at lsk_168 (k := 77) rfl) rfl ?_
      refine u_ld (v := lV l10) (pc := 150) (dec_at lsk_168 (k := 78) rfl) rfl ?_
      refine u_ld (v := lV l10) (pc := 152) (dec_at lsk_168 (k := 79) rfl) rfl ?_
      refine u_cl (x := 1) (pc := 154) (dec_at lsk_168 (k := 80) rfl) rfl (by decide) ?_
      refine u_lsub (pc := 155) (dec_at lsk_168 (k := 81) rfl) ?_
      refine u_land (pc := 156) (dec_at lsk_168 (k := 82) rfl) ?_
      refine u_sto (lv' := [.ref 231, .retAddr 0, .retAddr 0, iV l3, iV l4, .retAddr 0, iV l6, iV l7, lV (min l8 (pl 9000000000000000000 (u.1 244 ((((l7 * (u.1 232 2)) + l3) * (u.1 232 2)) + (ntz l10))) (u.1 270 (l6 + (ntz l10))))), .retAddr 0, lV (land l10 (l10 - 1)), .retAddr 0, iV (ntz l10), iV ((((l7 * (u.1 232 2)) + l3) * (u.1 232 2)) + (ntz l10))]) (pc := 157) (dec_at lsk_168 (k := 83) rfl) rfl ?_
      refine u_goto (pc := 159) (tgt := 77) (dec_at lsk_168 (k := 84) rfl) rfl ?_
      exact u_weak (sbK (sbK (sbK (sbK (sbK (sbK (sbK (sbK (sbK (sbK (sbK (sbK (sbD (sbD sb0)))))))))))))) h
    · have h := ifF e7 h
      refine u_ld (v := lV l10) (pc := 150) (dec_at lsk_168 (k := 78) rfl) rfl ?_
      refine u_ld (v := lV l10) (pc := 152) (dec_at lsk_168 (k := 79) rfl) rfl ?_
      refine u_cl (x := 1) (pc := 154) (dec_at lsk_168 (k := 80) rfl) rfl (by decide) ?_
      refine u_lsub (pc := 155) (dec_at lsk_168 (k := 81) rfl) ?_
      refine u_land (pc := 156) (dec_at lsk_168 (k := 82) rfl) ?_
      refine u_sto (lv' := [.ref 231, .retAddr 0, .retAddr 0, iV l3, iV l4, .retAddr 0, iV l6, iV l7, lV l8, .retAddr 0, lV (land l10 (l10 - 1)), .retAddr 0, iV (ntz l10), iV ((((l7 * (u.1 232 2)) + l3) * (u.1 232 2)) + (ntz l10))]) (pc := 157) (dec_at lsk_168 (k := 83) rfl) rfl ?_
      refine u_goto (pc := 159) (tgt := 77) (dec_at lsk_168 (k := 84) rfl) rfl ?_
      exact u_weak (sbK (sbK (sbK (sbK (sbK (sbK (sbK (sbK (sbK (sbK (sbK (sbK (sbD (sbD sb0)))))))))))))) h
/-- method 169 -/
def K_169 (d pc : Nat) (lv : ev_L) (st : List Value) (u : uS) (Q : Int → uS → Prop) : Prop := okU d 10 10 false (some .int) prog_12_method_10_code (qI Q) pc lv st u
theorem e_169 {d : Nat} {Q : Int → uS → Prop} {u : uS} {l1 l2 : Int} (h : (rI l2) ∧ ((rI (u.1 232 2)) ∧ (((u.1 232 2) ≠ 0) ∧ ((rI (l2.tdiv (u.1 232 2))) ∧ (K_169 (d + 1) 18 [.ref 231, iV l1, iV l2, iV 0, iV ((l2.tdiv (u.1 232 2)).tmod (u.1 232 2)), lV 0, .retAddr 0, iV 0, .retAddr 0, .retAddr 0] [] u Q))))) : cI (d + 2) 169 [.ref 231, iV l1, iV l2] u Q := by
  refine u_of me_169 (Nat.le_of_ble_eq_true rfl) ?_
  refine u_ld (v := iV 0) (pc := 0) (dec_at lsk_169 (k := 0) rfl) rfl ?_
  refine u_sto (lv' := [.ref 231, iV l1, iV l2, iV 0, .retAddr 0, .retAddr 0, .retAddr 0, .retAddr 0, .retAddr 0, .retAddr 0]) (pc := 1) (dec_at lsk_169 (k := 1) rfl) rfl ?_
  refine u_ld (v := .ref 231) (pc := 2) (dec_at lsk_169 (k := 2) rfl) rfl ?_
  refine u_gS (o := 1) (p := 232) (pc := 3) (dec_at lsk_169 (k := 3) rfl) f_10_12 sx_231 rfl rfl ?_
  refine u_ld (v := iV l2) (pc := 6) (dec_at lsk_169 (k := 4) rfl) rfl ?_
  refine u_cvI (As := [iV l2]) (rb := 232) (st2 := []) (pc := 7) (dec_at lsk_169 (k := 5) rfl) m_10_104 (Or.inl rfl) rfl (Nat.le_of_ble_eq_true rfl) sx_232 me_150 rfl ?_ (fun _ _ h_ => h_)
  refine u_of me_150 (Nat.le_of_ble_eq_true rfl) ?_
  refine u_ld (v := iV l2) (pc := 0) (dec_at lsk_150 (k := 0) rfl) rfl ?_
  refine u_ld (v := .ref 232) (pc := 1) (dec_at lsk_150 (k := 1) rfl) rfl ?_
  refine u_gI (z := 2) (pc := 2) (dec_at lsk_150 (k := 2) rfl) f_11_25 sx_232 rfl rfl ?_
  have g1 := h.1
  have h := h.2
  have g2 := h.1
  have h := h.2
  have g3 := h.1
  have h := h.2
  refine u_idiv (pc := 5) (dec_at lsk_150 (k := 3) rfl) g1 g2 g3 ?_
  refine u_ld (v := .ref 232) (pc := 6) (dec_at lsk_150 (k := 4) rfl) rfl ?_
  refine u_gI (z := 2) (pc := 7) (dec_at lsk_150 (k := 5) rfl) f_11_25 sx_232 rfl rfl ?_
  have g4 := h.1
  have h := h.2
  refine u_irem (pc := 10) (dec_at lsk_150 (k := 6) rfl) g4 g2 g3 ?_
  refine u_rI (pc := 11) (dec_at lsk_150 (k := 7) rfl) rfl ?_
  refine u_sto (lv' := [.ref 231, iV l1, iV l2, iV 0, iV ((l2.tdiv (u.1 232 2)).tmod (u.1 232 2)), .retAddr 0, .retAddr 0, .retAddr 0, .retAddr 0, .retAddr 0]) (pc := 10) (dec_at lsk_169 (k := 6) rfl) rfl ?_
  refine u_cl (x := 0) (pc := 12) (dec_at lsk_169 (k := 7) rfl) rfl (by decide) ?_
  refine u_sto (lv' := [.ref 231, iV l1, iV l2, iV 0, iV ((l2.tdiv (u.1 232 2)).tmod (u.1 232 2)), lV 0, .retAddr 0, .retAddr 0, .retAddr 0, .retAddr 0]) (pc := 13) (dec_at lsk_169 (k := 8) rfl) rfl ?_
  refine u_ld (v := iV 0) (pc := 15) (dec_at lsk_169 (k := 9) rfl) rfl ?_
  refine u_sto (lv' := [.ref 231, iV l1, iV l2, iV 0, iV ((l2.tdiv (u.1 232 2)).tmod (u.1 232 2)), lV 0, .retAddr 0, iV 0, .retAddr 0, .retAddr 0]) (pc := 16) (dec_at lsk_169 (k := 10) rfl) rfl ?_
  exact h
theorem k_169_18 {d : Nat} {Q : Int → uS → Prop} {u : uS} {l1 l2 l3 l4 l5 l7 : Int} (h : (0 ≤ l1) ∧ ((l1 < 30) ∧ ((rI l7) ∧ ((rI (u.1 258 l1)) ∧ (if l7 < u.1 258 l1 then ((0 ≤ (l1 * 6) + l7) ∧ (((l1 * 6) + l7 < 180) ∧ ((rI (u.1 259 ((l1 * 6) + l7))) ∧ (if u.1 259 ((l1 * 6) + l7) < 100 then ((isO (u.2 231 3) 5) ∧ ((0 ≤ (l4 * 10) + (u.1 259 ((l1 * 6) + l7))) ∧ (((l4 * 10) + (u.1 259 ((l1 * 6) + l7)) < 400) ∧ ((cn 9000000000000000000 l5) ∧ ((cn 9000000000000000000 1) ∧ ((rI ((u.1 258 l1) - 1)) ∧ (if l7 < (u.1 258 l1) - 1 then (K_169 (d + 1) 18 [.ref 231, iV l1, iV l2, iV (ior l3 (ishl (u.1 ((u.2 231 3) + 1) ((l4 * 10) + (u.1 259 ((l1 * 6) + l7)))) (6 * l7))), iV (u.1 ((u.2 231 3) + 1) ((l4 * 10) + (u.1 259 ((l1 * 6) + l7)))), lV (pl 9000000000000000000 l5 1), .retAddr 0, iV (l7 + 1), .retAddr 0, .retAddr 0] [] u Q) else (K_169 (d + 1) 18 [.ref 231, iV l1, iV l2, iV l3, iV (u.1 ((u.2 231 3) + 1) ((l4 * 10) + (u.1 259 ((l1 * 6) + l7)))), lV (pl 9000000000000000000 l5 1), .retAddr 0, iV (l7 + 1), .retAddr 0, .retAddr 0] [] u Q)))))))) else (cI (d + 1) 170 [.ref 231, iV ((u.1 259 ((l1 * 6) + l7)) - 100), iV l7, iV l4, lV l5, iV l2] u (fun r18 u17 => (0 ≤ (((((u.1 259 ((l1 * 6) + l7)) - 100) * (u17.1 232 2)) + l4) * (u17.1 232 2)) + r18) ∧ (((((((u.1 259 ((l1 * 6) + l7)) - 100) * (u17.1 232 2)) + l4) * (u17.1 232 2)) + r18 < 16000) ∧ ((cn 9000000000000000000 l5) ∧ ((cn 9000000000000000000 (u17.1 244 ((((((u.1 259 ((l1 * 6) + l7)) - 100) * (u17.1 232 2)) + l4) * (u17.1 232 2)) + r18))) ∧ ((rI ((u17.1 258 l1) - 1)) ∧ (if l7 < (u17.1 258 l1) - 1 then (K_169 (d + 1) 18 [.ref 231, iV l1, iV l2, iV (ior l3 (ishl r18 (6 * l7))), iV r18, lV (pl 9000000000000000000 l5 (u17.1 244 ((((((u.1 259 ((l1 * 6) + l7)) - 100) * (u17.1 232 2)) + l4) * (u17.1 232 2)) + r18))), .retAddr 0, iV (l7 + 1), .retAddr 0, .retAddr 0] [] u17 Q) else (K_169 (d + 1) 18 [.ref 231, iV l1, iV l2, iV l3, iV r18, lV (pl 9000000000000000000 l5 (u17.1 244 ((((((u.1 259 ((l1 * 6) + l7)) - 100) * (u17.1 232 2)) + l4) * (u17.1 232 2)) + r18))), .retAddr 0, iV (l7 + 1), .retAddr 0, .retAddr 0] [] u17 Q)))))))))))) else (Q l3 u)))))) : K_169 (d + 1) 18 [.ref 231, iV l1, iV l2, iV l3, iV l4, lV l5, .retAddr 0, iV l7, .retAddr 0, .retAddr 0] [] u Q := by
  unfold K_169
  refine u_ld (v := iV l7) (pc := 18) (dec_at lsk_169 (k := 11) rfl) rfl ?_
  refine u_ld (v := .ref 231) (pc := 20) (dec_at lsk_169 (k := 12) rfl) rfl ?_
  refine u_gS (o := 24) (p := 255) (pc := 21) (dec_at lsk_169 (k := 13) rfl) f_10_21 sx_231 rfl rfl ?_
  refine u_gS (o := 3) (p := 258) (pc := 24) (dec_at lsk_169 (k := 14) rfl) f_10_107 sx_255 rfl rfl ?_
  refine u_ld (v := iV l1) (pc := 27) (dec_at lsk_169 (k := 15) rfl) rfl ?_
  have g1 := h.1
  have h := h.2
  have g2 := h.1
  have h := h.2
  refine u_iald (pc := 28) (dec_at lsk_169 (k := 16) rfl) sx_258 g1 g2 ?_
  have g3 := h.1
  have h := h.2
  have g4 := h.1
  have h := h.2
  refine u_icF (pc := 29) (tgt := 161) (dec_at lsk_169 (k := 17) rfl) rfl (ci_ge g3 g4) (fun e5 => ?_) (fun e5 => ?_)
  · have h := ifT e5 h
    refine u_ld (v := .ref 231) (pc := 32) (dec_at lsk_169 (k := 18) rfl) rfl ?_
    refine u_gS (o := 24) (p := 255) (pc := 33) (dec_at lsk_169 (k := 19) rfl) f_10_21 sx_231 rfl rfl ?_
    refine u_ld (v := iV l1) (pc := 36) (dec_at lsk_169 (k := 20) rfl) rfl ?_
    refine u_ld (v := iV l7) (pc := 37) (dec_at lsk_169 (k := 21) rfl) rfl ?_
    refine u_cvI (As := [iV l1, iV l7]) (rb := 255) (st2 := []) (pc := 39) (dec_at lsk_169 (k := 22) rfl) m_10_128 (Or.inl rfl) rfl (Nat.le_of_ble_eq_true rfl) sx_255 me_42 rfl ?_ (fun _ _ h_ => h_)
    refine u_of me_42 (Nat.le_of_ble_eq_true rfl) ?_
    refine u_ld (v := .ref 255) (pc := 0) (dec_at lsk_42 (k := 0) rfl) rfl ?_
    refine u_gS (o := 4) (p := 259) (pc := 1) (dec_at lsk_42 (k := 1) rfl) f_2_21 sx_255 rfl rfl ?_
    refine u_ld (v := iV l1) (pc := 4) (dec_at lsk_42 (k := 2) rfl) rfl ?_
    refine u_c (x := 6) (pc := 5) (dec_at lsk_42 (k := 3) rfl) rfl (by decide) ?_
    refine u_imul (pc := 7) (dec_at lsk_42 (k := 4) rfl) ?_
    refine u_ld (v := iV l7) (pc := 8) (dec_at lsk_42 (k := 5) rfl) rfl ?_
    refine u_iadd (pc := 9) (dec_at lsk_42 (k := 6) rfl) ?_
    have g6 := h.1
    have h := h.2
    have g7 := h.1
    have h := h.2
    refine u_iald (pc := 10) (dec_at lsk_42 (k := 7) rfl) sx_259 g6 g7 ?_
    refine u_rI (pc := 11) (dec_at lsk_42 (k := 8) rfl) rfl ?_
    refine u_sto (lv' := [.ref 231, iV l1, iV l2, iV l3, iV l4, lV l5, .retAddr 0, iV l7, iV (u.1 259 ((l1 * 6) + l7)), .retAddr 0]) (pc := 42) (dec_at lsk_169 (k := 23) rfl) rfl ?_
    refine u_ld (v := iV (u.1 259 ((l1 * 6) + l7))) (pc := 44) (dec_at lsk_169 (k := 24) rfl) rfl ?_
    refine u_c (x := 100) (pc := 46) (dec_at lsk_169 (k := 25) rfl) rfl (by decide) ?_
    have g8 := h.1
    have h := h.2
    refine u_icF (pc := 48) (tgt := 75) (dec_at lsk_169 (k := 26) rfl) rfl (ci_ge g8 (by decide)) (fun e9 => ?_) (fun e9 => ?_)
    · have h := ifT e9 h
      refine u_ld (v := .ref 231) (pc := 51) (dec_at lsk_169 (k := 27) rfl) rfl ?_
      refine u_gR (z := 3) (pc := 52) (dec_at lsk_169 (k := 28) rfl) f_10_28 sx_231 rfl rfl ?_
      refine u_ld (v := iV l4) (pc := 55) (dec_at lsk_169 (k := 29) rfl) rfl ?_
      refine u_ld (v := iV (u.1 259 ((l1 * 6) + l7))) (pc := 57) (dec_at lsk_169 (k := 30) rfl) rfl ?_
      have g10 := h.1
      have h := h.2
      refine u_cvI (As := [iV l4, iV (u.1 259 ((l1 * 6) + l7))]) (rb := u.2 231 3) (st2 := []) (pc := 59) (dec_at lsk_169 (k := 31) rfl) m_10_131 (Or.inl rfl) rfl (Nat.le_of_ble_eq_true rfl) g10 me_75 rfl ?_ (fun _ _ h_ => h_)
      refine u_of me_75 (Nat.le_of_ble_eq_true rfl) ?_
      refine u_ld (v := .ref (u.2 231 3)) (pc := 0) (dec_at lsk_75 (k := 0) rfl) rfl ?_
      refine u_gS (o := 1) (p := (u.2 231 3) + 1) (pc := 1) (dec_at lsk_75 (k := 1) rfl) f_5_15 g10 rfl rfl ?_
      refine u_ld (v := iV l4) (pc := 4) (dec_at lsk_75 (k := 2) rfl) rfl ?_
      refine u_c (x := 10) (pc := 5) (dec_at lsk_75 (k := 3) rfl) rfl (by decide) ?_
      refine u_imul (pc := 7) (dec_at lsk_75 (k := 4) rfl) ?_
      refine u_ld (v := iV (u.1 259 ((l1 * 6) + l7))) (pc := 8) (dec_at lsk_75 (k := 5) rfl) rfl ?_
      refine u_iadd (pc := 9) (dec_at lsk_75 (k := 6) rfl) ?_
      have g11 := h.1
      have h := h.2
      have g12 := h.1
      have h := h.2
      refine u_iald (pc := 10) (dec_at lsk_75 (k := 7) rfl) (sa_5_2 g10) g11 g12 ?_
      refine u_rI (pc := 11) (dec_at lsk_75 (k := 8) rfl) rfl ?_
      refine u_sto (lv' := [.ref 231, iV l1, iV l2, iV l3, iV (u.1 ((u.2 231 3) + 1) ((l4 * 10) + (u.1 259 ((l1 * 6) + l7)))), lV l5, .retAddr 0, iV l7, iV (u.1 259 ((l1 * 6) + l7)), .retAddr 0]) (pc := 62) (dec_at lsk_169 (k := 32) rfl) rfl ?_
      refine u_ld (v := lV l5) (pc := 64) (dec_at lsk_169 (k := 33) rfl) rfl ?_
      refine u_cl (x := 1) (pc := 66) (dec_at lsk_169 (k := 34) rfl) rfl (by decide) ?_
      have g13 := h.1
      have h := h.2
      have g14 := h.1
      have h := h.2
      refine u_csL (As := [lV l5, lV 1]) (st2 := []) (pc := 67) (dec_at lsk_169 (k := 35) rfl) m_10_134 (Or.inr rfl) rfl (Nat.le_of_ble_eq_true rfl) (p_51 g13 g14) (fun r_ u_ h_ => ?_)
      rw [h_.1, h_.2]
      refine u_sto (lv' := [.ref 231, iV l1, iV l2, iV l3, iV (u.1 ((u.2 231 3) + 1) ((l4 * 10) + (u.1 259 ((l1 * 6) + l7)))), lV (pl 9000000000000000000 l5 1), .retAddr 0, iV l7, iV (u.1 259 ((l1 * 6) + l7)), .retAddr 0]) (pc := 70) (dec_at lsk_169 (k := 36) rfl) rfl ?_
      refine u_goto (pc := 72) (tgt := 128) (dec_at lsk_169 (k := 37) rfl) rfl ?_
      refine u_ld (v := iV l7) (pc := 128) (dec_at lsk_169 (k := 65) rfl) rfl ?_
      refine u_ld (v := .ref 231) (pc := 130) (dec_at lsk_169 (k := 66) rfl) rfl ?_
      refine u_gS (o := 24) (p := 255) (pc := 131) (dec_at lsk_169 (k := 67) rfl) f_10_21 sx_231 rfl rfl ?_
      refine u_gS (o := 3) (p := 258) (pc := 134) (dec_at lsk_169 (k := 68) rfl) f_10_107 sx_255 rfl rfl ?_
      refine u_ld (v := iV l1) (pc := 137) (dec_at lsk_169 (k := 69) rfl) rfl ?_
      refine u_iald (pc := 138) (dec_at lsk_169 (k := 70) rfl) sx_258 g1 g2 ?_
      refine u_ld (v := iV 1) (pc := 139) (dec_at lsk_169 (k := 71) rfl) rfl ?_
      refine u_isub (pc := 140) (dec_at lsk_169 (k := 72) rfl) ?_
      have g15 := h.1
      have h := h.2
      refine u_icF (pc := 141) (tgt := 155) (dec_at lsk_169 (k := 73) rfl) rfl (ci_ge g3 g15) (fun e16 => ?_) (fun e16 => ?_)
      · have h := ifT e16 h
        refine u_ld (v := iV l3) (pc := 144) (dec_at lsk_169 (k := 74) rfl) rfl ?_
        refine u_ld (v := iV (u.1 ((u.2 231 3) + 1) ((l4 * 10) + (u.1 259 ((l1 * 6) + l7))))) (pc := 145) (dec_at lsk_169 (k := 75) rfl) rfl ?_
        refine u_c (x := 6) (pc := 147) (dec_at lsk_169 (k := 76) rfl) rfl (by decide) ?_
        refine u_ld (v := iV l7) (pc := 149) (dec_at lsk_169 (k := 77) rfl) rfl ?_
        refine u_imul (pc := 151) (dec_at lsk_169 (k := 78) rfl) ?_
        refine u_ishl (pc := 152) (dec_at lsk_169 (k := 79) rfl) ?_
        refine u_ior (pc := 153) (dec_at lsk_169 (k := 80) rfl) ?_
        refine u_sto (lv' := [.ref 231, iV l1, iV l2, iV (ior l3 (ishl (u.1 ((u.2 231 3) + 1) ((l4 * 10) + (u.1 259 ((l1 * 6) + l7)))) (6 * l7))), iV (u.1 ((u.2 231 3) + 1) ((l4 * 10) + (u.1 259 ((l1 * 6) + l7)))), lV (pl 9000000000000000000 l5 1), .retAddr 0, iV l7, iV (u.1 259 ((l1 * 6) + l7)), .retAddr 0]) (pc := 154) (dec_at lsk_169 (k := 81) rfl) rfl ?_
        refine u_inc (lv' := [.ref 231, iV l1, iV l2, iV (ior l3 (ishl (u.1 ((u.2 231 3) + 1) ((l4 * 10) + (u.1 259 ((l1 * 6) + l7)))) (6 * l7))), iV (u.1 ((u.2 231 3) + 1) ((l4 * 10) + (u.1 259 ((l1 * 6) + l7)))), lV (pl 9000000000000000000 l5 1), .retAddr 0, iV (l7 + 1), iV (u.1 259 ((l1 * 6) + l7)), .retAddr 0]) (pc := 155) (dec_at lsk_169 (k := 82) rfl) rfl (by decide) rfl ?_
        refine u_goto (pc := 158) (tgt := 18) (dec_at lsk_169 (k := 83) rfl) rfl ?_
        exact u_weak (sbK (sbK (sbK (sbK (sbK (sbK (sbK (sbK (sbD (sbK sb0)))))))))) h
      · have h := ifF e16 h
        refine u_inc (lv' := [.ref 231, iV l1, iV l2, iV l3, iV (u.1 ((u.2 231 3) + 1) ((l4 * 10) + (u.1 259 ((l1 * 6) + l7)))), lV (pl 9000000000000000000 l5 1), .retAddr 0, iV (l7 + 1), iV (u.1 259 ((l1 * 6) + l7)), .retAddr 0]) (pc := 155) (dec_at lsk_169 (k := 82) rfl) rfl (by decide) rfl ?_
        refine u_goto (pc := 158) (tgt := 18) (dec_at lsk_169 (k := 83) rfl) rfl ?_
        exact u_weak (sbK (sbK (sbK (sbK (sbK (sbK (sbK (sbK (sbD (sbK sb0)))))))))) h
    · have h := ifF e9 h
      refine u_ld (v := .ref 231) (pc := 75) (dec_at lsk_169 (k := 38) rfl) rfl ?_
      refine u_ld (v := iV (u.1 259 ((l1 * 6) + l7))) (pc := 76) (dec_at lsk_169 (k := 39) rfl) rfl ?_
      refine u_c (x := 100) (pc := 78) (dec_at lsk_169 (k := 40) rfl) rfl (by decide) ?_
      refine u_isub (pc := 80) (dec_at lsk_169 (k := 41) rfl) ?_
      refine u_ld (v := iV l7) (pc := 81) (dec_at lsk_169 (k := 42) rfl) rfl ?_
      refine u_ld (v := iV l4) (pc := 83) (dec_at lsk_169 (k := 43) rfl) rfl ?_
      refine u_ld (v := lV l5) (pc := 85) (dec_at lsk_169 (k := 44) rfl) rfl ?_
      refine u_ld (v := iV l2) (pc := 87) (dec_at lsk_169 (k := 45) rfl) rfl ?_
      refine u_cvI (As := [iV ((u.1 259 ((l1 * 6) + l7)) - 100), iV l7, iV l4, lV l5, iV l2]) (rb := 231) (st2 := []) (pc := 88) (dec_at lsk_169 (k := 46) rfl) m_10_150 (Or.inl rfl) rfl (Nat.le_of_ble_eq_true rfl) sx_231 me_170 rfl h (fun r18 u17 h => ?_)
      refine u_sto (lv' := [.ref 231, iV l1, iV l2, iV l3, iV l4, lV l5, .retAddr 0, iV l7, iV (u.1 259 ((l1 * 6) + l7)), iV r18]) (pc := 91) (dec_at lsk_169 (k := 47) rfl) rfl ?_
      refine u_ld (v := lV l5) (pc := 93) (dec_at lsk_169 (k := 48) rfl) rfl ?_
      refine u_ld (v := .ref 231) (pc := 95) (dec_at lsk_169 (k := 49) rfl) rfl ?_
      refine u_gS (o := 1) (p := 232) (pc := 96) (dec_at lsk_169 (k := 50) rfl) f_10_12 sx_231 rfl rfl ?_
      refine u_gS (o := 12) (p := 244) (pc := 99) (dec_at lsk_169 (k := 51) rfl) f_10_49 sx_232 rfl rfl ?_
      refine u_ld (v := .ref 231) (pc := 102) (dec_at lsk_169 (k := 52) rfl) rfl ?_
      refine u_gS (o := 1) (p := 232) (pc := 103) (dec_at lsk_169 (k := 53) rfl) f_10_12 sx_231 rfl rfl ?_
      refine u_ld (v := iV (u.1 259 ((l1 * 6) + l7))) (pc := 106) (dec_at lsk_169 (k := 54) rfl) rfl ?_
      refine u_c (x := 100) (pc := 108) (dec_at lsk_169 (k := 55) rfl) rfl (by decide) ?_
      refine u_isub (pc := 110) (dec_at lsk_169 (k := 56) rfl) ?_
      refine u_ld (v := iV l4) (pc := 111) (dec_at lsk_169 (k := 57) rfl) rfl ?_
      refine u_ld (v := iV r18) (pc := 113) (dec_at lsk_169 (k := 58) rfl) rfl ?_
      refine u_cvI (As := [iV ((u.1 259 ((l1 * 6) + l7)) - 100), iV l4, iV r18]) (rb := 232) (st2 := [.ref 244, lV l5]) (pc := 115) (dec_at lsk_169 (k := 59) rfl) m_10_141 (Or.inl rfl) rfl (Nat.le_of_ble_eq_true rfl) sx_232 me_147 rfl ?_ (fun _ _ h_ => h_)
      refine u_of me_147 (Nat.le_of_ble_eq_true rfl) ?_
      refine u_ld (v := iV ((u.1 259 ((l1 * 6) + l7)) - 100)) (pc := 0) (dec_at lsk_147 (k := 0) rfl) rfl ?_
      refine u_ld (v := .ref 232) (pc := 1) (dec_at lsk_147 (k := 1) rfl) rfl ?_
      refine u_gI (z := 2) (pc := 2) (dec_at lsk_147 (k := 2) rfl) f_11_25 sx_232 rfl rfl ?_
      refine u_imul (pc := 5) (dec_at lsk_147 (k := 3) rfl) ?_
      refine u_ld (v := iV l4) (pc := 6) (dec_at lsk_147 (k := 4) rfl) rfl ?_
      refine u_iadd (pc := 7) (dec_at lsk_147 (k := 5) rfl) ?_
      refine u_ld (v := .ref 232) (pc := 8) (dec_at lsk_147 (k := 6) rfl) rfl ?_
      refine u_gI (z := 2) (pc := 9) (dec_at lsk_147 (k := 7) rfl) f_11_25 sx_232 rfl rfl ?_
      refine u_imul (pc := 12) (dec_at lsk_147 (k := 8) rfl) ?_
      refine u_ld (v := iV r18) (pc := 13) (dec_at lsk_147 (k := 9) rfl) rfl ?_
      refine u_iadd (pc := 14) (dec_at lsk_147 (k := 10) rfl) ?_
      refine u_rI (pc := 15) (dec_at lsk_147 (k := 11) rfl) rfl ?_
      have g19 := h.1
      have h := h.2
      have g20 := h.1
      have h := h.2
      refine u_lald (pc := 118) (dec_at lsk_169 (k := 60) rfl) sx_244 g19 g20 ?_
      have g21 := h.1
      have h := h.2
      have g22 := h.1
      have h := h.2
      refine u_csL (As := [lV l5, lV (u17.1 244 ((((((u.1 259 ((l1 * 6) + l7)) - 100) * (u17.1 232 2)) + l4) * (u17.1 232 2)) + r18))]) (st2 := []) (pc := 119) (dec_at lsk_169 (k := 61) rfl) m_10_134 (Or.inr rfl) rfl (Nat.le_of_ble_eq_true rfl) (p_51 g21 g22) (fun r_ u_ h_ => ?_)
      rw [h_.1, h_.2]
      refine u_sto (lv' := [.ref 231, iV l1, iV l2, iV l3, iV l4, lV (pl 9000000000000000000 l5 (u17.1 244 ((((((u.1 259 ((l1 * 6) + l7)) - 100) * (u17.1 232 2)) + l4) * (u17.1 232 2)) + r18))), .retAddr 0, iV l7, iV (u.1 259 ((l1 * 6) + l7)), iV r18]) (pc := 122) (dec_at lsk_169 (k := 62) rfl) rfl ?_
      refine u_ld (v := iV r18) (pc := 124) (dec_at lsk_169 (k := 63) rfl) rfl ?_
      refine u_sto (lv' := [.ref 231, iV l1, iV l2, iV l3, iV r18, lV (pl 9000000000000000000 l5 (u17.1 244 ((((((u.1 259 ((l1 * 6) + l7)) - 100) * (u17.1 232 2)) + l4) * (u17.1 232 2)) + r18))), .retAddr 0, iV l7, iV (u.1 259 ((l1 * 6) + l7)), iV r18]) (pc := 126) (dec_at lsk_169 (k := 64) rfl) rfl ?_
      refine u_ld (v := iV l7) (pc := 128) (dec_at lsk_169 (k := 65) rfl) rfl ?_
      refine u_ld (v := .ref 231) (pc := 130) (dec_at lsk_169 (k := 66) rfl) rfl ?_
      refine u_gS (o := 24) (p := 255) (pc := 131) (dec_at lsk_169 (k := 67) rfl) f_10_21 sx_231 rfl rfl ?_
      refine u_gS (o := 3) (p := 258) (pc := 134) (dec_at lsk_169 (k := 68) rfl) f_10_107 sx_255 rfl rfl ?_
      refine u_ld (v := iV l1) (pc := 137) (dec_at lsk_169 (k := 69) rfl) rfl ?_
      refine u_iald (pc := 138) (dec_at lsk_169 (k := 70) rfl) sx_258 g1 g2 ?_
      refine u_ld (v := iV 1) (pc := 139) (dec_at lsk_169 (k := 71) rfl) rfl ?_
      refine u_isub (pc := 140) (dec_at lsk_169 (k := 72) rfl) ?_
      have g23 := h.1
      have h := h.2
      refine u_icF (pc := 141) (tgt := 155) (dec_at lsk_169 (k := 73) rfl) rfl (ci_ge g3 g23) (fun e24 => ?_) (fun e24 => ?_)
      · have h := ifT e24 h
        refine u_ld (v := iV l3) (pc := 144) (dec_at lsk_169 (k := 74) rfl) rfl ?_
        refine u_ld (v := iV r18) (pc := 145) (dec_at lsk_169 (k := 75) rfl) rfl ?_
        refine u_c (x := 6) (pc := 147) (dec_at lsk_169 (k := 76) rfl) rfl (by decide) ?_
        refine u_ld (v := iV l7) (pc := 149) (dec_at lsk_169 (k := 77) rfl) rfl ?_
        refine u_imul (pc := 151) (dec_at lsk_169 (k := 78) rfl) ?_
        refine u_ishl (pc := 152) (dec_at lsk_169 (k := 79) rfl) ?_
        refine u_ior (pc := 153) (dec_at lsk_169 (k := 80) rfl) ?_
        refine u_sto (lv' := [.ref 231, iV l1, iV l2, iV (ior l3 (ishl r18 (6 * l7))), iV r18, lV (pl 9000000000000000000 l5 (u17.1 244 ((((((u.1 259 ((l1 * 6) + l7)) - 100) * (u17.1 232 2)) + l4) * (u17.1 232 2)) + r18))), .retAddr 0, iV l7, iV (u.1 259 ((l1 * 6) + l7)), iV r18]) (pc := 154) (dec_at lsk_169 (k := 81) rfl) rfl ?_
        refine u_inc (lv' := [.ref 231, iV l1, iV l2, iV (ior l3 (ishl r18 (6 * l7))), iV r18, lV (pl 9000000000000000000 l5 (u17.1 244 ((((((u.1 259 ((l1 * 6) + l7)) - 100) * (u17.1 232 2)) + l4) * (u17.1 232 2)) + r18))), .retAddr 0, iV (l7 + 1), iV (u.1 259 ((l1 * 6) + l7)), iV r18]) (pc := 155) (dec_at lsk_169 (k := 82) rfl) rfl (by decide) rfl ?_
        refine u_goto (pc := 158) (tgt := 18) (dec_at lsk_169 (k := 83) rfl) rfl ?_
        exact u_weak (sbK (sbK (sbK (sbK (sbK (sbK (sbK (sbK (sbD (sbD sb0)))))))))) h
      · have h := ifF e24 h
        refine u_inc (lv' := [.ref 231, iV l1, iV l2, iV l3, iV r18, lV (pl 9000000000000000000 l5 (u17.1 244 ((((((u.1 259 ((l1 * 6) + l7)) - 100) * (u17.1 232 2)) + l4) * (u17.1 232 2)) + r18))), .retAddr 0, iV (l7 + 1), iV (u.1 259 ((l1 * 6) + l7)), iV r18]) (pc := 155) (dec_at lsk_169 (k := 82) rfl) rfl (by decide) rfl ?_
        refine u_goto (pc := 158) (tgt := 18) (dec_at lsk_169 (k := 83) rfl) rfl ?_
        exact u_weak (sbK (sbK (sbK (sbK (sbK (sbK (sbK (sbK (sbD (sbD sb0)))))))))) h
  · have h := ifF e5 h
    refine u_ld (v := iV l3) (pc := 161) (dec_at lsk_169 (k := 84) rfl) rfl ?_
    exact u_rI (pc := 162) (dec_at lsk_169 (k := 85) rfl) rfl h
/-- method 170 -/
def K_170 (d pc : Nat) (lv : ev_L) (st : List Value) (u : uS) (Q : Int → uS → Prop) : Prop := okU d 10 13 false (some .int) prog_12_method_11_code (qI Q) pc lv st u
theorem e_170 {d : Nat} {Q : Int → uS → Prop} {u : uS} {l1 l2 l3 l4 l6 : Int} (h : (0 ≤ (l1 * 40) + l3) ∧ (((l1 * 40) + l3 < 400) ∧ (K_170 (d + 2) 15 [.ref 231, iV l1, iV l2, iV l3, lV l4, .retAddr 0, iV l6, lV (u.1 247 ((l1 * 40) + l3)), .retAddr 0, .retAddr 0, .retAddr 0, .retAddr 0, .retAddr 0] [] u Q))) : cI (d + 3) 170 [.ref 231, iV l1, iV l2, iV l3, lV l4, iV l6] u Q := by
  refine u_of me_170 (Nat.le_of_ble_eq_true rfl) ?_
  refine u_ld (v := .ref 231) (pc := 0) (dec_at lsk_170 (k := 0) rfl) rfl ?_
  refine u_gS (o := 1) (p := 232) (pc := 1) (dec_at lsk_170 (k := 1) rfl) f_10_12 sx_231 rfl rfl ?_
  refine u_gS (o := 15) (p := 247) (pc := 4) (dec_at lsk_170 (k := 2) rfl) f_10_109 sx_232 rfl rfl ?_
  refine u_ld (v := iV l1) (pc := 7) (dec_at lsk_170 (k := 3) rfl) rfl ?_
  refine u_ld (v := iV l3) (pc := 8) (dec_at lsk_170 (k := 4) rfl) rfl ?_
  refine u_csI (As := [iV l1, iV l3]) (st2 := [.ref 247]) (pc := 9) (dec_at lsk_170 (k := 5) rfl) m_10_138 (Or.inr rfl) rfl (Nat.le_of_ble_eq_true rfl) ?_ (fun _ _ h_ => h_)
  refine u_of me_141 (Nat.le_of_ble_eq_true rfl) ?_
  refine u_ld (v := iV l1) (pc := 0) (dec_at lsk_141 (k := 0) rfl) rfl ?_
  refine u_c (x := 40) (pc := 1) (dec_at lsk_141 (k := 1) rfl) rfl (by decide) ?_
  refine u_imul (pc := 3) (dec_at lsk_141 (k := 2) rfl) ?_
  refine u_ld (v := iV l3) (pc := 4) (dec_at lsk_141 (k := 3) rfl) rfl ?_
  refine u_iadd (pc := 5) (dec_at lsk_141 (k := 4) rfl) ?_
  refine u_rI (pc := 6) (dec_at lsk_141 (k := 5) rfl) rfl ?_
  have g1 := h.1
  have h := h.2
  have g2 := h.1
  have h := h.2
  refine u_lald (pc := 12) (dec_at lsk_170 (k := 6) rfl) sx_247 g1 g2 ?_
  refine u_sto (lv' := [.ref 231, iV l1, iV l2, iV l3, lV l4, .retAddr 0, iV l6, lV (u.1 247 ((l1 * 40) + l3)), .retAddr 0, .retAddr 0, .retAddr 0, .retAddr 0, .retAddr 0]) (pc := 13) (dec_at lsk_170 (k := 7) rfl) rfl ?_
  exact h
theorem k_170_15 {d : Nat} {Q : Int → uS → Prop} {u : uS} {l1 l2 l3 l4 l6 l7 : Int} (h : (rL l7) ∧ (if l7 = 0 then (Q 0 u) else ((0 ≤ (((l1 * (u.1 232 2)) + l3) * (u.1 232 2)) + (ntz l7)) ∧ (((((l1 * (u.1 232 2)) + l3) * (u.1 232 2)) + (ntz l7) < 16000) ∧ ((cn 9000000000000000000 l4) ∧ ((cn 9000000000000000000 (u.1 244 ((((l1 * (u.1 232 2)) + l3) * (u.1 232 2)) + (ntz l7)))) ∧ ((0 ≤ ((l2 + 1) * 40) + (ntz l7)) ∧ ((((l2 + 1) * 40) + (ntz l7) < 280) ∧ ((cn 9000000000000000000 (u.1 270 (((l2 + 1) * 40) + (ntz l7)))) ∧ ((0 ≤ l6) ∧ ((l6 < 16000) ∧ ((rI (u.1 245 ((((l1 * (u.1 232 2)) + l3) * (u.1 232 2)) + (ntz l7)))) ∧ ((rI (u.1 245 l6)) ∧ (if u.1 245 ((((l1 * (u.1 232 2)) + l3) * (u.1 232 2)) + (ntz l7)) < u.1 245 l6 then ((rL (u.1 244 l6)) ∧ (if pl 9000000000000000000 (pl 9000000000000000000 l4 (u.1 244 ((((l1 * (u.1 232 2)) + l3) * (u.1 232 2)) + (ntz l7)))) (u.1 270 (((l2 + 1) * 40) + (ntz l7))) = u.1 244 l6 then (Q (ntz l7) u) else (K_170 (d + 2) 15 [.ref 231, iV l1, iV l2, iV l3, lV l4, .retAddr 0, iV l6, lV (land l7 (l7 - 1)), .retAddr 0, .retAddr 0, .retAddr 0, .retAddr 0, .retAddr 0] [] u Q))) else (K_170 (d + 2) 15 [.ref 231, iV l1, iV l2, iV l3, lV l4, .retAddr 0, iV l6, lV (land l7 (l7 - 1)), .retAddr 0, .retAddr 0, .retAddr 0, .retAddr 0, .retAddr 0] [] u Q))))))))))))))) : K_170 (d + 2) 15 [.ref 231, iV l1, iV l2, iV l3, lV l4, .retAddr 0, iV l6, lV l7, .retAddr 0, .retAddr 0, .retAddr 0, .retAddr 0, .retAddr 0] [] u Q := by
  unfold K_170
  refine u_ld (v := lV l7) (pc := 15) (dec_at lsk_170 (k := 8) rfl) rfl ?_
  refine u_cl (x := 0) (pc := 17) (dec_at lsk_170 (k := 9) rfl) rfl (by decide) ?_
  refine u_st (st' := [.int (lg_cmp (Int64.ofInt l7) (Int64.ofInt 0))]) (pc := 18) (dec_at lsk_170 (k := 10) rfl) rfl ?_
  have g1 := h.1
  have h := h.2
  refine u_ifT (pc := 19) (tgt := 130) (dec_at lsk_170 (k := 11) rfl) rfl (cl_eq g1 (by decide)) (fun e2 => ?_) (fun e2 => ?_)
  · have h := ifT e2 h
    refine u_ld (v := iV 0) (pc := 130) (dec_at lsk_170 (k := 69) rfl) rfl ?_
    exact u_rI (pc := 131) (dec_at lsk_170 (k := 70) rfl) rfl h
  · have h := ifF e2 h
    refine u_ld (v := lV l7) (pc := 22) (dec_at lsk_170 (k := 12) rfl) rfl ?_
    refine u_csI (As := [lV l7]) (st2 := []) (pc := 24) (dec_at lsk_170 (k := 13) rfl) m_10_116 (Or.inl rfl) rfl (Nat.le_of_ble_eq_true rfl) (p_77 ) (fun r_ u_ h_ => ?_)
    rw [h_.1, h_.2]
    refine u_sto (lv' := [.ref 231, iV l1, iV l2, iV l3, lV l4, .retAddr 0, iV l6, lV l7, .retAddr 0, iV (ntz l7), .retAddr 0, .retAddr 0, .retAddr 0]) (pc := 27) (dec_at lsk_170 (k := 14) rfl) rfl ?_
    refine u_ld (v := .ref 231) (pc := 29) (dec_at lsk_170 (k := 15) rfl) rfl ?_
    refine u_gS (o := 1) (p := 232) (pc := 30) (dec_at lsk_170 (k := 16) rfl) f_10_12 sx_231 rfl rfl ?_
    refine u_ld (v := iV l1) (pc := 33) (dec_at lsk_170 (k := 17) rfl) rfl ?_
    refine u_ld (v := iV l3) (pc := 34) (dec_at lsk_170 (k := 18) rfl) rfl ?_
    refine u_ld (v := iV (ntz l7)) (pc := 35) (dec_at lsk_170 (k := 19) rfl) rfl ?_
    refine u_cvI (As := [iV l1, iV l3, iV (ntz l7)]) (rb := 232) (st2 := []) (pc := 37) (dec_at lsk_170 (k := 20) rfl) m_10_141 (Or.inl rfl) rfl (Nat.le_of_ble_eq_true rfl) sx_232 me_147 rfl ?_ (fun _ _ h_ => h_)
    refine u_of me_147 (Nat.le_of_ble_eq_true rfl) ?_
    refine u_ld (v := iV l1) (pc := 0) (dec_at lsk_147 (k := 0) rfl) rfl ?_
    refine u_ld (v := .ref 232) (pc := 1) (dec_at lsk_147 (k := 1) rfl) rfl ?_
    refine u_gI (z := 2) (pc := 2) (dec_at lsk_147 (k := 2) rfl) f_11_25 sx_232 rfl rfl ?_
    refine u_imul (pc := 5) (dec_at lsk_147 (k := 3) rfl) ?_
    refine u_ld (v := iV l3) (pc := 6) (dec_at lsk_147 (k := 4) rfl) rfl ?_
    refine u_iadd (pc := 7) (dec_at lsk_147 (k := 5) rfl) ?_
    refine u_ld (v := .ref 232) (pc := 8) (dec_at lsk_147 (k := 6) rfl) rfl ?_
    refine u_gI (z := 2) (pc := 9) (dec_at lsk_147 (k := 7) rfl) f_11_25 sx_232 rfl rfl ?_
    refine u_imul (pc := 12) (dec_at lsk_147 (k := 8) rfl) ?_
    refine u_ld (v := iV (ntz l7)) (pc := 13) (dec_at lsk_147 (k := 9) rfl) rfl ?_
    refine u_iadd (pc := 14) (dec_at lsk_147 (k := 10) rfl) ?_
    refine u_rI (pc := 15) (dec_at lsk_147 (k := 11) rfl) rfl ?_
    refine u_sto (lv' := [.ref 231, iV l1, iV l2, iV l3, lV l4, .retAddr 0, iV l6, lV l7, .retAddr 0, iV (ntz l7), iV ((((l1 * (u.1 232 2)) + l3) * (u.1 232 2)) + (ntz l7)), .retAddr 0, .retAddr 0]) (pc := 40) (dec_at lsk_170 (k := 21) rfl) rfl ?_
    refine u_ld (v := lV l4) (pc := 42) (dec_at lsk_170 (k := 22) rfl) rfl ?_
    refine u_ld (v := .ref 231) (pc := 44) (dec_at lsk_170 (k := 23) rfl) rfl ?_
    refine u_gS (o := 1) (p := 232) (pc := 45) (dec_at lsk_170 (k := 24) rfl) f_10_12 sx_231 rfl rfl ?_
    refine u_gS (o := 12) (p := 244) (pc := 48) (dec_at lsk_170 (k := 25) rfl) f_10_49 sx_232 rfl rfl ?_
    refine u_ld (v := iV ((((l1 * (u.1 232 2)) + l3) * (u.1 232 2)) + (ntz l7))) (pc := 51) (dec_at lsk_170 (k := 26) rfl) rfl ?_
    have g3 := h.1
    have h := h.2
    have g4 := h.1
    have h := h.2
    refine u_lald (pc := 53) (dec_at lsk_170 (k := 27) rfl) sx_244 g3 g4 ?_
    have g5 := h.1
    have h := h.2
    have g6 := h.1
    have h := h.2
    refine u_csL (As := [lV l4, lV (u.1 244 ((((l1 * (u.1 232 2)) + l3) * (u.1 232 2)) + (ntz l7)))]) (st2 := []) (pc := 54) (dec_at lsk_170 (k := 28) rfl) m_10_134 (Or.inr rfl) rfl (Nat.le_of_ble_eq_true rfl) (p_51 g5 g6) (fun r_ u_ h_ => ?_)
    rw [h_.1, h_.2]
    refine u_ld (v := .ref 231) (pc := 57) (dec_at lsk_170 (k := 29) rfl) rfl ?_
    refine u_gS (o := 39) (p := 270) (pc := 58) (dec_at lsk_170 (k := 30) rfl) f_10_46 sx_231 rfl rfl ?_
    refine u_ld (v := iV l2) (pc := 61) (dec_at lsk_170 (k := 31) rfl) rfl ?_
    refine u_ld (v := iV 1) (pc := 62) (dec_at lsk_170 (k := 32) rfl) rfl ?_
    refine u_iadd (pc := 63) (dec_at lsk_170 (k := 33) rfl) ?_
    refine u_c (x := 40) (pc := 64) (dec_at lsk_170 (k := 34) rfl) rfl (by decide) ?_
    refine u_imul (pc := 66) (dec_at lsk_170 (k := 35) rfl) ?_
    refine u_ld (v := iV (ntz l7)) (pc := 67) (dec_at lsk_170 (k := 36) rfl) rfl ?_
    refine u_iadd (pc := 69) (dec_at lsk_170 (k := 37) rfl) ?_
    have g7 := h.1
    have h := h.2
    have g8 := h.1
    have h := h.2
    refine u_lald (pc := 70) (dec_at lsk_170 (k := 38) rfl) sx_270 g7 g8 ?_
    have g9 := h.1
    have h := h.2
    refine u_csL (As := [lV (pl 9000000000000000000 l4 (u.1 244 ((((l1 * (u.1 232 2)) + l3) * (u.1 232 2)) + (ntz l7)))), lV (u.1 270 (((l2 + 1) * 40) + (ntz l7)))]) (st2 := []) (pc := 71) (dec_at lsk_170 (k := 39) rfl) m_10_134 (Or.inr rfl) rfl (Nat.le_of_ble_eq_true rfl) (p_51 (cn_pl g5 g6) g9) (fun r_ u_ h_ => ?_)
    rw [h_.1, h_.2]
    refine u_sto (lv' := [.ref 231, iV l1, iV l2, iV l3, lV l4, .retAddr 0, iV l6, lV l7, .retAddr 0, iV (ntz l7), iV ((((l1 * (u.1 232 2)) + l3) * (u.1 232 2)) + (ntz l7)), lV (pl 9000000000000000000 (pl 9000000000000000000 l4 (u.1 244 ((((l1 * (u.1 232 2)) + l3) * (u.1 232 2)) + (ntz l7)))) (u.1 270 (((l2 + 1) * 40) + (ntz l7)))), .retAddr 0]) (pc := 74) (dec_at lsk_170 (k := 40) rfl) rfl ?_
    refine u_ld (v := .ref 231) (pc := 76) (dec_at lsk_170 (k := 41) rfl) rfl ?_
    refine u_gS (o := 1) (p := 232) (pc := 77) (dec_at lsk_170 (k := 42) rfl) f_10_12 sx_231 rfl rfl ?_
    refine u_gS (o := 13) (p := 245) (pc := 80) (dec_at lsk_170 (k := 43) rfl) f_10_56 sx_232 rfl rfl ?_
    refine u_ld (v := iV ((((l1 * (u.1 232 2)) + l3) * (u.1 232 2)) + (ntz l7))) (pc := 83) (dec_at lsk_170 (k := 44) rfl) rfl ?_
    refine u_iald (pc := 85) (dec_at lsk_170 (k := 45) rfl) sx_245 g3 g4 ?_
    refine u_ld (v := .ref 231) (pc := 86) (dec_at lsk_170 (k := 46) rfl) rfl ?_
    refine u_gS (o := 1) (p := 232) (pc := 87) (dec_at lsk_170 (k := 47) rfl) f_10_12 sx_231 rfl rfl ?_
    refine u_gS (o := 13) (p := 245) (pc := 90) (dec_at lsk_170 (k := 48) rfl) f_10_56 sx_232 rfl rfl ?_
    refine u_ld (v := iV l6) (pc := 93) (dec_at lsk_170 (k := 49) rfl) rfl ?_
    have g10 := h.1
    have h := h.2
    have g11 := h.1
    have h := h.2
    refine u_iald (pc := 95) (dec_at lsk_170 (k := 50) rfl) sx_245 g10 g11 ?_
    have g12 := h.1
    have h := h.2
    have g13 := h.1
    have h := h.2
    refine u_icF (pc := 96) (tgt := 118) (dec_at lsk_170 (k := 51) rfl) rfl (ci_ge g12 g13) (fun e14 => ?_) (fun e14 => ?_)
    · have h := ifT e14 h
      refine u_ld (v := lV (pl 9000000000000000000 (pl 9000000000000000000 l4 (u.1 244 ((((l1 * (u.1 232 2)) + l3) * (u.1 232 2)) + (ntz l7)))) (u.1 270 (((l2 + 1) * 40) + (ntz l7))))) (pc := 99) (dec_at lsk_170 (k := 52) rfl) rfl ?_
      refine u_ld (v := .ref 231) (pc := 101) (dec_at lsk_170 (k := 53) rfl) rfl ?_
      refine u_gS (o := 1) (p := 232) (pc := 102) (dec_at lsk_170 (k := 54) rfl) f_10_12 sx_231 rfl rfl ?_
      refine u_gS (o := 12) (p := 244) (pc := 105) (dec_at lsk_170 (k := 55) rfl) f_10_49 sx_232 rfl rfl ?_
      refine u_ld (v := iV l6) (pc := 108) (dec_at lsk_170 (k := 56) rfl) rfl ?_
      refine u_lald (pc := 110) (dec_at lsk_170 (k := 57) rfl) sx_244 g10 g11 ?_
      refine u_st (st' := [.int (lg_cmp (Int64.ofInt (pl 9000000000000000000 (pl 9000000000000000000 l4 (u.1 244 ((((l1 * (u.1 232 2)) + l3) * (u.1 232 2)) + (ntz l7)))) (u.1 270 (((l2 + 1) * 40) + (ntz l7))))) (Int64.ofInt (u.1 244 l6)))]) (pc := 111) (dec_at lsk_170 (k := 58) rfl) rfl ?_
      have g15 := h.1
      have h := h.2
      refine u_ifF (pc := 112) (tgt := 118) (dec_at lsk_170 (k := 59) rfl) rfl (cl_ne (rl_cn9 (cn_pl (cn_pl g5 g6) g9)) g15) (fun e16 => ?_) (fun e16 => ?_)
      · have h := ifT e16 h
        refine u_ld (v := iV (ntz l7)) (pc := 115) (dec_at lsk_170 (k := 60) rfl) rfl ?_
        exact u_rI (pc := 117) (dec_at lsk_170 (k := 61) rfl) rfl h
      · have h := ifF e16 h
        refine u_ld (v := lV l7) (pc := 118) (dec_at lsk_170 (k := 62) rfl) rfl ?_
        refine u_ld (v := lV l7) (pc := 120) (dec_at lsk_170 (k := 63) rfl) rfl ?_
        refine u_cl (x := 1) (pc := 122) (dec_at lsk_170 (k := 64) rfl) rfl (by decide) ?_
        refine u_lsub (pc := 123) (dec_at lsk_170 (k := 65) rfl) ?_
        refine u_land (pc := 124) (dec_at lsk_170 (k := 66) rfl) ?_
        refine u_sto (lv' := [.ref 231, iV l1, iV l2, iV l3, lV l4, .retAddr 0, iV l6, lV (land l7 (l7 - 1)), .retAddr 0, iV (ntz l7), iV ((((l1 * (u.1 232 2)) + l3) * (u.1 232 2)) + (ntz l7)), lV (pl 9000000000000000000 (pl 9000000000000000000 l4 (u.1 244 ((((l1 * (u.1 232 2)) + l3) * (u.1 232 2)) + (ntz l7)))) (u.1 270 (((l2 + 1) * 40) + (ntz l7)))), .retAddr 0]) (pc := 125) (dec_at lsk_170 (k := 67) rfl) rfl ?_
        refine u_goto (pc := 127) (tgt := 15) (dec_at lsk_170 (k := 68) rfl) rfl ?_
        exact u_weak (sbK (sbK (sbK (sbK (sbK (sbK (sbK (sbK (sbK (sbD (sbD (sbD (sbK sb0))))))))))))) h
    · have h := ifF e14 h
      refine u_ld (v := lV l7) (pc := 118) (dec_at lsk_170 (k := 62) rfl) rfl ?_
      refine u_ld (v := lV l7) (pc := 120) (dec_at lsk_170 (k := 63) rfl) rfl ?_
      refine u_cl (x := 1) (pc := 122) (dec_at lsk_170 (k := 64) rfl) rfl (by decide) ?_
      refine u_lsub (pc := 123) (dec_at lsk_170 (k := 65) rfl) ?_
      refine u_land (pc := 124) (dec_at lsk_170 (k := 66) rfl) ?_
      refine u_sto (lv' := [.ref 231, iV l1, iV l2, iV l3, lV l4, .retAddr 0, iV l6, lV (land l7 (l7 - 1)), .retAddr 0, iV (ntz l7), iV ((((l1 * (u.1 232 2)) + l3) * (u.1 232 2)) + (ntz l7)), lV (pl 9000000000000000000 (pl 9000000000000000000 l4 (u.1 244 ((((l1 * (u.1 232 2)) + l3) * (u.1 232 2)) + (ntz l7)))) (u.1 270 (((l2 + 1) * 40) + (ntz l7)))), .retAddr 0]) (pc := 125) (dec_at lsk_170 (k := 67) rfl) rfl ?_
      refine u_goto (pc := 127) (tgt := 15) (dec_at lsk_170 (k := 68) rfl) rfl ?_
      exact u_weak (sbK (sbK (sbK (sbK (sbK (sbK (sbK (sbK (sbK (sbD (sbD (sbD (sbK sb0))))))))))))) h
/-- method 171 -/
def K_171 (d pc : Nat) (lv : ev_L) (st : List Value) (u : uS) (Q : uS → Prop) : Prop := okU d 10 4 false none prog_12_method_14_code (qV Q) pc lv st u
theorem e_171 {d : Nat} {Q : uS → Prop} {u : uS} {l1 : Int} (h : (0 ≤ l1) ∧ ((l1 < 16000) ∧ (K_171 (d + 1) 9 [.ref 231, iV l1, iV (u.1 266 l1), iV 0] [] u Q))) : cV (d + 2) 171 [.ref 231, iV l1] u Q := by
  refine u_of me_171 (Nat.le_of_ble_eq_true rfl) ?_
  refine u_ld (v := .ref 231) (pc := 0) (dec_at lsk_171 (k := 0) rfl) rfl ?_
  refine u_gS (o := 35) (p := 266) (pc := 1) (dec_at lsk_171 (k := 1) rfl) f_10_32 sx_231 rfl rfl ?_
  refine u_ld (v := iV l1) (pc := 4) (dec_at lsk_171 (k := 2) rfl) rfl ?_
  have g1 := h.1
  have h := h.2
  have g2 := h.1
  have h := h.2
  refine u_iald (pc := 5) (dec_at lsk_171 (k := 3) rfl) sx_266 g1 g2 ?_
  refine u_sto (lv' := [.ref 231, iV l1, iV (u.1 266 l1), .retAddr 0]) (pc := 6) (dec_at lsk_171 (k := 4) rfl) rfl ?_
  refine u_ld (v := iV 0) (pc := 7) (dec_at lsk_171 (k := 5) rfl) rfl ?_
  refine u_sto (lv' := [.ref 231, iV l1, iV (u.1 266 l1), iV 0]) (pc := 8) (dec_at lsk_171 (k := 6) rfl) rfl ?_
  exact h
theorem k_171_9 {d : Nat} {Q : uS → Prop} {u : uS} {l1 l2 l3 : Int} (h : (0 ≤ l2) ∧ ((l2 < 30) ∧ ((rI l3) ∧ ((rI (u.1 258 l2)) ∧ (if l3 < u.1 258 l2 then ((0 ≤ (l2 * 6) + l3) ∧ (((l2 * 6) + l3 < 180) ∧ ((rI (u.1 259 ((l2 * 6) + l3))) ∧ (if u.1 259 ((l2 * 6) + l3) < 100 then (K_171 (d + 1) 9 [.ref 231, iV l1, iV l2, iV (l3 + 1)] [] u Q) else (cI (d + 1) 172 [.ref 231, iV l1, iV l3] u (fun r11 u10 => (0 ≤ r11) ∧ ((r11 < 16000) ∧ (∀ u14 : uS, u14 = wr u10 268 r11 1 → (K_171 (d + 1) 9 [.ref 231, iV l1, iV l2, iV (l3 + 1)] [] u14 Q))))))))) else (Q u)))))) : K_171 (d + 1) 9 [.ref 231, iV l1, iV l2, iV l3] [] u Q := by
  unfold K_171
  refine u_ld (v := iV l3) (pc := 9) (dec_at lsk_171 (k := 7) rfl) rfl ?_
  refine u_ld (v := .ref 231) (pc := 10) (dec_at lsk_171 (k := 8) rfl) rfl ?_
  refine u_gS (o := 24) (p := 255) (pc := 11) (dec_at lsk_171 (k := 9) rfl) f_10_21 sx_231 rfl rfl ?_
  refine u_gS (o := 3) (p := 258) (pc := 14) (dec_at lsk_171 (k := 10) rfl) f_10_107 sx_255 rfl rfl ?_
  refine u_ld (v := iV l2) (pc := 17) (dec_at lsk_171 (k := 11) rfl) rfl ?_
  have g1 := h.1
  have h := h.2
  have g2 := h.1
  have h := h.2
  refine u_iald (pc := 18) (dec_at lsk_171 (k := 12) rfl) sx_258 g1 g2 ?_
  have g3 := h.1
  have h := h.2
  have g4 := h.1
  have h := h.2
  refine u_icF (pc := 19) (tgt := 54) (dec_at lsk_171 (k := 13) rfl) rfl (ci_ge g3 g4) (fun e5 => ?_) (fun e5 => ?_)
  · have h := ifT e5 h
    refine u_ld (v := .ref 231) (pc := 22) (dec_at lsk_171 (k := 14) rfl) rfl ?_
    refine u_gS (o := 24) (p := 255) (pc := 23) (dec_at lsk_171 (k := 15) rfl) f_10_21 sx_231 rfl rfl ?_
    refine u_ld (v := iV l2) (pc := 26) (dec_at lsk_171 (k := 16) rfl) rfl ?_
    refine u_ld (v := iV l3) (pc := 27) (dec_at lsk_171 (k := 17) rfl) rfl ?_
    refine u_cvI (As := [iV l2, iV l3]) (rb := 255) (st2 := []) (pc := 28) (dec_at lsk_171 (k := 18) rfl) m_10_128 (Or.inl rfl) rfl (Nat.le_of_ble_eq_true rfl) sx_255 me_42 rfl ?_ (fun _ _ h_ => h_)
    refine u_of me_42 (Nat.le_of_ble_eq_true rfl) ?_
    refine u_ld (v := .ref 255) (pc := 0) (dec_at lsk_42 (k := 0) rfl) rfl ?_
    refine u_gS (o := 4) (p := 259) (pc := 1) (dec_at lsk_42 (k := 1) rfl) f_2_21 sx_255 rfl rfl ?_
    refine u_ld (v := iV l2) (pc := 4) (dec_at lsk_42 (k := 2) rfl) rfl ?_
    refine u_c (x := 6) (pc := 5) (dec_at lsk_42 (k := 3) rfl) rfl (by decide) ?_
    refine u_imul (pc := 7) (dec_at lsk_42 (k := 4) rfl) ?_
    refine u_ld (v := iV l3) (pc := 8) (dec_at lsk_42 (k := 5) rfl) rfl ?_
    refine u_iadd (pc := 9) (dec_at lsk_42 (k := 6) rfl) ?_
    have g6 := h.1
    have h := h.2
    have g7 := h.1
    have h := h.2
    refine u_iald (pc := 10) (dec_at lsk_42 (k := 7) rfl) sx_259 g6 g7 ?_
    refine u_rI (pc := 11) (dec_at lsk_42 (k := 8) rfl) rfl ?_
    refine u_c (x := 100) (pc := 31) (dec_at lsk_171 (k := 19) rfl) rfl (by decide) ?_
    have g8 := h.1
    have h := h.2
    refine u_icT (pc := 33) (tgt := 48) (dec_at lsk_171 (k := 20) rfl) rfl (ci_lt g8 (by decide)) (fun e9 => ?_) (fun e9 => ?_)
    · have h := ifT e9 h
      refine u_inc (lv' := [.ref 231, iV l1, iV l2, iV (l3 + 1)]) (pc := 48) (dec_at lsk_171 (k := 29) rfl) rfl (by decide) rfl ?_
      refine u_goto (pc := 51) (tgt := 9) (dec_at lsk_171 (k := 30) rfl) rfl ?_
      exact h
    · have h := ifF e9 h
      refine u_ld (v := .ref 231) (pc := 36) (dec_at lsk_171 (k := 21) rfl) rfl ?_
      refine u_gS (o := 37) (p := 268) (pc := 37) (dec_at lsk_171 (k := 22) rfl) f_10_39 sx_231 rfl rfl ?_
      refine u_ld (v := .ref 231) (pc := 40) (dec_at lsk_171 (k := 23) rfl) rfl ?_
      refine u_ld (v := iV l1) (pc := 41) (dec_at lsk_171 (k := 24) rfl) rfl ?_
      refine u_ld (v := iV l3) (pc := 42) (dec_at lsk_171 (k := 25) rfl) rfl ?_
      refine u_cvI (As := [iV l1, iV l3]) (rb := 231) (st2 := [.ref 268]) (pc := 43) (dec_at lsk_171 (k := 26) rfl) m_10_157 (Or.inl rfl) rfl (Nat.le_of_ble_eq_true rfl) sx_231 me_172 rfl h (fun r11 u10 h => ?_)
      refine u_cl (x := 1) (pc := 46) (dec_at lsk_171 (k := 27) rfl) rfl (by decide) ?_
      have g12 := h.1
      have h := h.2
      have g13 := h.1
      have h := h.2
      refine u_last (pc := 47) (dec_at lsk_171 (k := 28) rfl) sx_268 g12 g13 (fun u14 e15 => ?_)
      have h := h u14 e15
      refine u_inc (lv' := [.ref 231, iV l1, iV l2, iV (l3 + 1)]) (pc := 48) (dec_at lsk_171 (k := 29) rfl) rfl (by decide) rfl ?_
      refine u_goto (pc := 51) (tgt := 9) (dec_at lsk_171 (k := 30) rfl) rfl ?_
      exact h
  · have h := ifF e5 h
    exact u_rV (pc := 54) (dec_at lsk_171 (k := 31) rfl) rfl h
/-- method 172 -/
def K_172 (d pc : Nat) (lv : ev_L) (st : List Value) (u : uS) (Q : Int → uS → Prop) : Prop := okU d 10 5 false (some .int) prog_12_method_13_code (qI Q) pc lv st u
theorem e_172 {d : Nat} {Q : Int → uS → Prop} {u : uS} {l1 l2 : Int} (h : (0 ≤ l1) ∧ ((l1 < 16000) ∧ ((0 ≤ u.1 266 l1) ∧ ((u.1 266 l1 < 30) ∧ ((rI l2) ∧ ((rI ((u.1 258 (u.1 266 l1)) - 1)) ∧ (if l2 = (u.1 258 (u.1 266 l1)) - 1 then ((rI l1) ∧ ((rI (u.1 232 2)) ∧ (((u.1 232 2) ≠ 0) ∧ ((0 ≤ ((u.1 266 l1) * 6) + l2) ∧ ((((u.1 266 l1) * 6) + l2 < 180) ∧ (if l2 = 0 then ((rI (l1.tdiv (u.1 232 2))) ∧ (Q ((((((u.1 259 (((u.1 266 l1) * 6) + l2)) - 100) * (u.1 232 2)) + ((l1.tdiv (u.1 232 2)).tmod (u.1 232 2))) * (u.1 232 2)) + (l1.tmod (u.1 232 2))) u)) else (Q ((((((u.1 259 (((u.1 266 l1) * 6) + l2)) - 100) * (u.1 232 2)) + (iand (iushr (u.1 267 l1) (6 * (l2 - 1))) 63)) * (u.1 232 2)) + (l1.tmod (u.1 232 2))) u))))))) else ((rI (l2 + 1)) ∧ (if l2 + 1 = 0 then ((rI l1) ∧ ((rI (u.1 232 2)) ∧ (((u.1 232 2) ≠ 0) ∧ ((rI (l1.tdiv (u.1 232 2))) ∧ ((0 ≤ ((u.1 266 l1) * 6) + l2) ∧ ((((u.1 266 l1) * 6) + l2 < 180) ∧ (if l2 = 0 then (Q ((((((u.1 259 (((u.1 266 l1) * 6) + l2)) - 100) * (u.1 232 2)) + ((l1.tdiv (u.1 232 2)).tmod (u.1 232 2))) * (u.1 232 2)) + ((l1.tdiv (u.1 232 2)).tmod (u.1 232 2))) u) else (Q ((((((u.1 259 (((u.1 266 l1) * 6) + l2)) - 100) * (u.1 232 2)) + (iand (iushr (u.1 267 l1) (6 * (l2 - 1))) 63)) * (u.1 232 2)) + ((l1.tdiv (u.1 232 2)).tmod (u.1 232 2))) u)))))))) else ((0 ≤ ((u.1 266 l1) * 6) + l2) ∧ ((((u.1 266 l1) * 6) + l2 < 180) ∧ (if l2 = 0 then ((rI l1) ∧ ((rI (u.1 232 2)) ∧ (((u.1 232 2) ≠ 0) ∧ ((rI (l1.tdiv (u.1 232 2))) ∧ (Q ((((((u.1 259 (((u.1 266 l1) * 6) + l2)) - 100) * (u.1 232 2)) + ((l1.tdiv (u.1 232 2)).tmod (u.1 232 2))) * (u.1 232 2)) + (iand (iushr (u.1 267 l1) (6 * ((l2 + 1) - 1))) 63)) u))))) else (Q ((((((u.1 259 (((u.1 266 l1) * 6) + l2)) - 100) * (u.1 232 2)) + (iand (iushr (u.1 267 l1) (6 * (l2 - 1))) 63)) * (u.1 232 2)) + (iand (iushr (u.1 267 l1) (6 * ((l2 + 1) - 1))) 63)) u))))))))))))) : cI (d + 3) 172 [.ref 231, iV l1, iV l2] u Q := by
  refine u_of me_172 (Nat.le_of_ble_eq_true rfl) ?_
  refine u_ld (v := .ref 231) (pc := 0) (dec_at lsk_172 (k := 0) rfl) rfl ?_
  refine u_gS (o := 35) (p := 266) (pc := 1) (dec_at lsk_172 (k := 1) rfl) f_10_32 sx_231 rfl rfl ?_
  refine u_ld (v := iV l1) (pc := 4) (dec_at lsk_172 (k := 2) rfl) rfl ?_
  have g1 := h.1
  have h := h.2
  have g2 := h.1
  have h := h.2
  refine u_iald (pc := 5) (dec_at lsk_172 (k := 3) rfl) sx_266 g1 g2 ?_
  refine u_sto (lv' := [.ref 231, iV l1, iV l2, iV (u.1 266 l1), .retAddr 0]) (pc := 6) (dec_at lsk_172 (k := 4) rfl) rfl ?_
  refine u_ld (v := iV l2) (pc := 7) (dec_at lsk_172 (k := 5) rfl) rfl ?_
  refine u_ld (v := .ref 231) (pc := 8) (dec_at lsk_172 (k := 6) rfl) rfl ?_
  refine u_gS (o := 24) (p := 255) (pc := 9) (dec_at lsk_172 (k := 7) rfl) f_10_21 sx_231 rfl rfl ?_
  refine u_gS (o := 3) (p := 258) (pc := 12) (dec_at lsk_172 (k := 8) rfl) f_10_107 sx_255 rfl rfl ?_
  refine u_ld (v := iV (u.1 266 l1)) (pc := 15) (dec_at lsk_172 (k := 9) rfl) rfl ?_
  have g3 := h.1
  have h := h.2
  have g4 := h.1
  have h := h.2
  refine u_iald (pc := 16) (dec_at lsk_172 (k := 10) rfl) sx_258 g3 g4 ?_
  refine u_ld (v := iV 1) (pc := 17) (dec_at lsk_172 (k := 11) rfl) rfl ?_
  refine u_isub (pc := 18) (dec_at lsk_172 (k := 12) rfl) ?_
  have g5 := h.1
  have h := h.2
  have g6 := h.1
  have h := h.2
  refine u_icF (pc := 19) (tgt := 33) (dec_at lsk_172 (k := 13) rfl) rfl (ci_ne g5 g6) (fun e7 => ?_) (fun e7 => ?_)
  · have h := ifT e7 h
    refine u_ld (v := .ref 231) (pc := 22) (dec_at lsk_172 (k := 14) rfl) rfl ?_
    refine u_gS (o := 1) (p := 232) (pc := 23) (dec_at lsk_172 (k := 15) rfl) f_10_12 sx_231 rfl rfl ?_
    refine u_ld (v := iV l1) (pc := 26) (dec_at lsk_172 (k := 16) rfl) rfl ?_
    refine u_cvI (As := [iV l1]) (rb := 232) (st2 := []) (pc := 27) (dec_at lsk_172 (k := 17) rfl) m_10_59 (Or.inl rfl) rfl (Nat.le_of_ble_eq_true rfl) sx_232 me_151 rfl ?_ (fun _ _ h_ => h_)
    refine u_of me_151 (Nat.le_of_ble_eq_true rfl) ?_
    refine u_ld (v := iV l1) (pc := 0) (dec_at lsk_151 (k := 0) rfl) rfl ?_
    refine u_ld (v := .ref 232) (pc := 1) (dec_at lsk_151 (k := 1) rfl) rfl ?_
    refine u_gI (z := 2) (pc := 2) (dec_at lsk_151 (k := 2) rfl) f_11_25 sx_232 rfl rfl ?_
    have g8 := h.1
    have h := h.2
    have g9 := h.1
    have h := h.2
    have g10 := h.1
    have h := h.2
    refine u_irem (pc := 5) (dec_at lsk_151 (k := 3) rfl) g8 g9 g10 ?_
    refine u_rI (pc := 6) (dec_at lsk_151 (k := 4) rfl) rfl ?_
    refine u_goto (pc := 30) (tgt := 41) (dec_at lsk_172 (k := 18) rfl) rfl ?_
    refine u_sto (lv' := [.ref 231, iV l1, iV l2, iV (u.1 266 l1), iV (l1.tmod (u.1 232 2))]) (pc := 41) (dec_at lsk_172 (k := 25) rfl) rfl ?_
    refine u_ld (v := .ref 231) (pc := 43) (dec_at lsk_172 (k := 26) rfl) rfl ?_
    refine u_gS (o := 1) (p := 232) (pc := 44) (dec_at lsk_172 (k := 27) rfl) f_10_12 sx_231 rfl rfl ?_
    refine u_ld (v := .ref 231) (pc := 47) (dec_at lsk_172 (k := 28) rfl) rfl ?_
    refine u_gS (o := 24) (p := 255) (pc := 48) (dec_at lsk_172 (k := 29) rfl) f_10_21 sx_231 rfl rfl ?_
    refine u_ld (v := iV (u.1 266 l1)) (pc := 51) (dec_at lsk_172 (k := 30) rfl) rfl ?_
    refine u_ld (v := iV l2) (pc := 52) (dec_at lsk_172 (k := 31) rfl) rfl ?_
    refine u_cvI (As := [iV (u.1 266 l1), iV l2]) (rb := 255) (st2 := [.ref 232]) (pc := 53) (dec_at lsk_172 (k := 32) rfl) m_10_128 (Or.inl rfl) rfl (Nat.le_of_ble_eq_true rfl) sx_255 me_42 rfl ?_ (fun _ _ h_ => h_)
    refine u_of me_42 (Nat.le_of_ble_eq_true rfl) ?_
    refine u_ld (v := .ref 255) (pc := 0) (dec_at lsk_42 (k := 0) rfl) rfl ?_
    refine u_gS (o := 4) (p := 259) (pc := 1) (dec_at lsk_42 (k := 1) rfl) f_2_21 sx_255 rfl rfl ?_
    refine u_ld (v := iV (u.1 266 l1)) (pc := 4) (dec_at lsk_42 (k := 2) rfl) rfl ?_
    refine u_c (x := 6) (pc := 5) (dec_at lsk_42 (k := 3) rfl) rfl (by decide) ?_
    refine u_imul (pc := 7) (dec_at lsk_42 (k := 4) rfl) ?_
    refine u_ld (v := iV l2) (pc := 8) (dec_at lsk_42 (k := 5) rfl) rfl ?_
    refine u_iadd (pc := 9) (dec_at lsk_42 (k := 6) rfl) ?_
    have g11 := h.1
    have h := h.2
    have g12 := h.1
    have h := h.2
    refine u_iald (pc := 10) (dec_at lsk_42 (k := 7) rfl) sx_259 g11 g12 ?_
    refine u_rI (pc := 11) (dec_at lsk_42 (k := 8) rfl) rfl ?_
    refine u_c (x := 100) (pc := 56) (dec_at lsk_172 (k := 33) rfl) rfl (by decide) ?_
    refine u_isub (pc := 58) (dec_at lsk_172 (k := 34) rfl) ?_
    refine u_ld (v := .ref 231) (pc := 59) (dec_at lsk_172 (k := 35) rfl) rfl ?_
    refine u_ld (v := iV l1) (pc := 60) (dec_at lsk_172 (k := 36) rfl) rfl ?_
    refine u_ld (v := iV l2) (pc := 61) (dec_at lsk_172 (k := 37) rfl) rfl ?_
    refine u_cvI (As := [iV l1, iV l2]) (rb := 231) (st2 := [iV ((u.1 259 (((u.1 266 l1) * 6) + l2)) - 100), .ref 232]) (pc := 62) (dec_at lsk_172 (k := 38) rfl) m_10_154 (Or.inl rfl) rfl (Nat.le_of_ble_eq_true rfl) sx_231 me_173 rfl ?_ (fun _ _ h_ => h_)
    refine u_of me_173 (Nat.le_of_ble_eq_true rfl) ?_
    refine u_ld (v := iV l2) (pc := 0) (dec_at lsk_173 (k := 0) rfl) rfl ?_
    refine u_ifF (pc := 1) (tgt := 15) (dec_at lsk_173 (k := 1) rfl) rfl (c0_ne g5) (fun e13 => ?_) (fun e13 => ?_)
    · have h := ifT e13 h
      refine u_ld (v := .ref 231) (pc := 4) (dec_at lsk_173 (k := 2) rfl) rfl ?_
      refine u_gS (o := 1) (p := 232) (pc := 5) (dec_at lsk_173 (k := 3) rfl) f_10_12 sx_231 rfl rfl ?_
      refine u_ld (v := iV l1) (pc := 8) (dec_at lsk_173 (k := 4) rfl) rfl ?_
      refine u_cvI (As := [iV l1]) (rb := 232) (st2 := []) (pc := 9) (dec_at lsk_173 (k := 5) rfl) m_10_104 (Or.inl rfl) rfl (Nat.le_of_ble_eq_true rfl) sx_232 me_150 rfl ?_ (fun _ _ h_ => h_)
      refine u_of me_150 (Nat.le_of_ble_eq_true rfl) ?_
      refine u_ld (v := iV l1) (pc := 0) (dec_at lsk_150 (k := 0) rfl) rfl ?_
      refine u_ld (v := .ref 232) (pc := 1) (dec_at lsk_150 (k := 1) rfl) rfl ?_
      refine u_gI (z := 2) (pc := 2) (dec_at lsk_150 (k := 2) rfl) f_11_25 sx_232 rfl rfl ?_
      refine u_idiv (pc := 5) (dec_at lsk_150 (k := 3) rfl) g8 g9 g10 ?_
      refine u_ld (v := .ref 232) (pc := 6) (dec_at lsk_150 (k := 4) rfl) rfl ?_
      refine u_gI (z := 2) (pc := 7) (dec_at lsk_150 (k := 5) rfl) f_11_25 sx_232 rfl rfl ?_
      have g14 := h.1
      have h := h.2
      refine u_irem (pc := 10) (dec_at lsk_150 (k := 6) rfl) g14 g9 g10 ?_
      refine u_rI (pc := 11) (dec_at lsk_150 (k := 7) rfl) rfl ?_
      refine u_goto (pc := 12) (tgt := 31) (dec_at lsk_173 (k := 6) rfl) rfl ?_
      refine u_rI (pc := 31) (dec_at lsk_173 (k := 19) rfl) rfl ?_
      refine u_ld (v := iV (l1.tmod (u.1 232 2))) (pc := 65) (dec_at lsk_172 (k := 39) rfl) rfl ?_
      refine u_cvI (As := [iV ((u.1 259 (((u.1 266 l1) * 6) + l2)) - 100), iV ((l1.tdiv (u.1 232 2)).tmod (u.1 232 2)), iV (l1.tmod (u.1 232 2))]) (rb := 232) (st2 := []) (pc := 67) (dec_at lsk_172 (k := 40) rfl) m_10_141 (Or.inl rfl) rfl (Nat.le_of_ble_eq_true rfl) sx_232 me_147 rfl ?_ (fun _ _ h_ => h_)
      refine u_of me_147 (Nat.le_of_ble_eq_true rfl) ?_
      refine u_ld (v := iV ((u.1 259 (((u.1 266 l1) * 6) + l2)) - 100)) (pc := 0) (dec_at lsk_147 (k := 0) rfl) rfl ?_
      refine u_ld (v := .ref 232) (pc := 1) (dec_at lsk_147 (k := 1) rfl) rfl ?_
      refine u_gI (z := 2) (pc := 2) (dec_at lsk_147 (k := 2) rfl) f_11_25 sx_232 rfl rfl ?_
      refine u_imul (pc := 5) (dec_at lsk_147 (k := 3) rfl) ?_
      refine u_ld (v := iV ((l1.tdiv (u.1 232 2)).tmod (u.1 232 2))) (pc := 6) (dec_at lsk_147 (k := 4) rfl) rfl ?_
      refine u_iadd (pc := 7) (dec_at lsk_147 (k := 5) rfl) ?_
      refine u_ld (v := .ref 232) (pc := 8) (dec_at lsk_147 (k := 6) rfl) rfl ?_
      refine u_gI (z := 2) (pc := 9) (dec_at lsk_147 (k := 7) rfl) f_11_25 sx_232 rfl rfl ?_
      refine u_imul (pc := 12) (dec_at lsk_147 (k := 8) rfl) ?_
      refine u_ld (v := iV (l1.tmod (u.1 232 2))) (pc := 13) (dec_at lsk_147 (k := 9) rfl) rfl ?_
      refine u_iadd (pc := 14) (dec_at lsk_147 (k := 10) rfl) ?_
      refine u_rI (pc := 15) (dec_at lsk_147 (k := 11) rfl) rfl ?_
      exact u_rI (pc := 70) (dec_at lsk_172 (k := 41) rfl) rfl h
    · have h := ifF e13 h
      refine u_ld (v := .ref 231) (pc := 15) (dec_at lsk_173 (k := 7) rfl) rfl ?_
      refine u_gS (o := 36) (p := 267) (pc := 16) (dec_at lsk_173 (k := 8) rfl) f_10_36 sx_231 rfl rfl ?_
      refine u_ld (v := iV l1) (pc := 19) (dec_at lsk_173 (k := 9) rfl) rfl ?_
      refine u_iald (pc := 20) (dec_at lsk_173 (k := 10) rfl) sx_267 g1 g2 ?_
      refine u_c (x := 6) (pc := 21) (dec_at lsk_173 (k := 11) rfl) rfl (by decide) ?_
      refine u_ld (v := iV l2) (pc := 23) (dec_at lsk_173 (k := 12) rfl) rfl ?_
      refine u_ld (v := iV 1) (pc := 24) (dec_at lsk_173 (k := 13) rfl) rfl ?_
      refine u_isub (pc := 25) (dec_at lsk_173 (k := 14) rfl) ?_
      refine u_imul (pc := 26) (dec_at lsk_173 (k := 15) rfl) ?_
      refine u_iushr (pc := 27) (dec_at lsk_173 (k := 16) rfl) ?_
      refine u_c (x := 63) (pc := 28) (dec_at lsk_173 (k := 17) rfl) rfl (by decide) ?_
      refine u_iand (pc := 30) (dec_at lsk_173 (k := 18) rfl) ?_
      refine u_rI (pc := 31) (dec_at lsk_173 (k := 19) rfl) rfl ?_
      refine u_ld (v := iV (l1.tmod (u.1 232 2))) (pc := 65) (dec_at lsk_172 (k := 39) rfl) rfl ?_
      refine u_cvI (As := [iV ((u.1 259 (((u.1 266 l1) * 6) + l2)) - 100), iV (iand (iushr (u.1 267 l1) (6 * (l2 - 1))) 63), iV (l1.tmod (u.1 232 2))]) (rb := 232) (st2 := []) (pc := 67) (dec_at lsk_172 (k := 40) rfl) m_10_141 (Or.inl rfl) rfl (Nat.le_of_ble_eq_true rfl) sx_232 me_147 rfl ?_ (fun _ _ h_ => h_)
      refine u_of me_147 (Nat.le_of_ble_eq_true rfl) ?_
      refine u_ld (v := iV ((u.1 259 (((u.1 266 l1) * 6) + l2)) - 100)) (pc := 0) (dec_at lsk_147 (k := 0) rfl) rfl ?_
      refine u_ld (v := .ref 232) (pc := 1) (dec_at lsk_147 (k := 1) rfl) rfl ?_
      refine u_gI (z := 2) (pc := 2) (dec_at lsk_147 (k := 2) rfl) f_11_25 sx_232 rfl rfl ?_
      refine u_imul (pc := 5) (dec_at lsk_147 (k := 3) rfl) ?_
      refine u_ld (v := iV (iand (iushr (u.1 267 l1) (6 * (l2 - 1))) 63)) (pc := 6) (dec_at lsk_147 (k := 4) rfl) rfl ?_
      refine u_iadd (pc := 7) (dec_at lsk_147 (k := 5) rfl) ?_
      refine u_ld (v := .ref 232) (pc := 8) (dec_at lsk_147 (k := 6) rfl) rfl ?_
      refine u_gI (z := 2) (pc := 9) (dec_at lsk_147 (k := 7) rfl) f_11_25 sx_232 rfl rfl ?_
      refine u_imul (pc := 12) (dec_at lsk_147 (k := 8) rfl) ?_
      refine u_ld (v := iV (l1.tmod (u.1 232 2))) (pc := 13) (dec_at lsk_147 (k := 9) rfl) rfl ?_
      refine u_iadd (pc := 14) (dec_at lsk_147 (k := 10) rfl) ?_
      refine u_rI (pc := 15) (dec_at lsk_147 (k := 11) rfl) rfl ?_
      exact u_rI (pc := 70) (dec_at lsk_172 (k := 41) rfl) rfl h
  · have h := ifF e7 h
    refine u_ld (v := .ref 231) (pc := 33) (dec_at lsk_172 (k := 19) rfl) rfl ?_
    refine u_ld (v := iV l1) (pc := 34) (dec_at lsk_172 (k := 20) rfl) rfl ?_
    refine u_ld (v := iV l2) (pc := 35) (dec_at lsk_172 (k := 21) rfl) rfl ?_
    refine u_ld (v := iV 1) (pc := 36) (dec_at lsk_172 (k := 22) rfl) rfl ?_
    refine u_iadd (pc := 37) (dec_at lsk_172 (k := 23) rfl) ?_
    refine u_cvI (As := [iV l1, iV (l2 + 1)]) (rb := 231) (st2 := []) (pc := 38) (dec_at lsk_172 (k := 24) rfl) m_10_154 (Or.inl rfl) rfl (Nat.le_of_ble_eq_true rfl) sx_231 me_173 rfl ?_ (fun _ _ h_ => h_)
    refine u_of me_173 (Nat.le_of_ble_eq_true rfl) ?_
    refine u_ld (v := iV (l2 + 1)) (pc := 0) (dec_at lsk_173 (k := 0) rfl) rfl ?_
    have g15 := h.1
    have h := h.2
    refine u_ifF (pc := 1) (tgt := 15) (dec_at lsk_173 (k := 1) rfl) rfl (c0_ne g15) (fun e16 => ?_) (fun e16 => ?_)
    · have h := ifT e16 h
      refine u_ld (v := .ref 231) (pc := 4) (dec_at lsk_173 (k := 2) rfl) rfl ?_
      refine u_gS (o := 1) (p := 232) (pc := 5) (dec_at lsk_173 (k := 3) rfl) f_10_12 sx_231 rfl rfl ?_
      refine u_ld (v := iV l1) (pc := 8) (dec_at lsk_173 (k := 4) rfl) rfl ?_
      refine u_cvI (As := [iV l1]) (rb := 232) (st2 := []) (pc := 9) (dec_at lsk_173 (k := 5) rfl) m_10_104 (Or.inl rfl) rfl (Nat.le_of_ble_eq_true rfl) sx_232 me_150 rfl ?_ (fun _ _ h_ => h_)
      refine u_of me_150 (Nat.le_of_ble_eq_true rfl) ?_
      refine u_ld (v := iV l1) (pc := 0) (dec_at lsk_150 (k := 0) rfl) rfl ?_
      refine u_ld (v := .ref 232) (pc := 1) (dec_at lsk_150 (k := 1) rfl) rfl ?_
      refine u_gI (z := 2) (pc := 2) (dec_at lsk_150 (k := 2) rfl) f_11_25 sx_232 rfl rfl ?_
      have g17 := h.1
      have h := h.2
      have g18 := h.1
      have h := h.2
      have g19 := h.1
      have h := h.2
      refine u_idiv (pc := 5) (dec_at lsk_150 (k := 3) rfl) g17 g18 g19 ?_
      refine u_ld (v := .ref 232) (pc := 6) (dec_at lsk_150 (k := 4) rfl) rfl ?_
      refine u_gI (z := 2) (pc := 7) (dec_at lsk_150 (k := 5) rfl) f_11_25 sx_232 rfl rfl ?_
      have g20 := h.1
      have h := h.2
      refine u_irem (pc := 10) (dec_at lsk_150 (k := 6) rfl) g20 g18 g19 ?_
      refine u_rI (pc := 11) (dec_at lsk_150 (k := 7) rfl) rfl ?_
      refine u_goto (pc := 12) (tgt := 31) (dec_at lsk_173 (k := 6) rfl) rfl ?_
      refine u_rI (pc := 31) (dec_at lsk_173 (k := 19) rfl) rfl ?_
      refine u_sto (lv' := [.ref 231, iV l1, iV l2, iV (u.1 266 l1), iV ((l1.tdiv (u.1 232 2)).tmod (u.1 232 2))]) (pc := 41) (dec_at lsk_172 (k := 25) rfl) rfl ?_
      refine u_ld (v := .ref 231) (pc := 43) (dec_at lsk_172 (k := 26) rfl) rfl ?_
      refine u_gS (o := 1) (p := 232) (pc := 44) (dec_at lsk_172 (k := 27) rfl) f_10_12 sx_231 rfl rfl ?_
      refine u_ld (v := .ref 231) (pc := 47) (dec_at lsk_172 (k := 28) rfl) rfl ?_
      refine u_gS (o := 24) (p := 255) (pc := 48) (dec_at lsk_172 (k := 29) rfl) f_10_21 sx_231 rfl rfl ?_
      refine u_ld (v := iV (u.1 266 l1)) (pc := 51) (dec_at lsk_172 (k := 30) rfl) rfl ?_
      refine u_ld (v := iV l2) (pc := 52) (dec_at lsk_172 (k := 31) rfl) rfl ?_
      refine u_cvI (As := [iV (u.1 266 l1), iV l2]) (rb := 255) (st2 := [.ref 232]) (pc := 53) (dec_at lsk_172 (k := 32) rfl) m_10_128 (Or.inl rfl) rfl (Nat.le_of_ble_eq_true rfl) sx_255 me_42 rfl ?_ (fun _ _ h_ => h_)
      refine u_of me_42 (Nat.le_of_ble_eq_true rfl) ?_
      refine u_ld (v := .ref 255) (pc := 0) (dec_at lsk_42 (k := 0) rfl) rfl ?_
      refine u_gS (o := 4) (p := 259) (pc := 1) (dec_at lsk_42 (k := 1) rfl) f_2_21 sx_255 rfl rfl ?_
      refine u_ld (v := iV (u.1 266 l1)) (pc := 4) (dec_at lsk_42 (k := 2) rfl) rfl ?_
      refine u_c (x := 6) (pc := 5) (dec_at lsk_42 (k := 3) rfl) rfl (by decide) ?_
      refine u_imul (pc := 7) (dec_at lsk_42 (k := 4) rfl) ?_
      refine u_ld (v := iV l2) (pc := 8) (dec_at lsk_42 (k := 5) rfl) rfl ?_
      refine u_iadd (pc := 9) (dec_at lsk_42 (k := 6) rfl) ?_
      have g21 := h.1
      have h := h.2
      have g22 := h.1
      have h := h.2
      refine u_iald (pc := 10) (dec_at lsk_42 (k := 7) rfl) sx_259 g21 g22 ?_
      refine u_rI (pc := 11) (dec_at lsk_42 (k := 8) rfl) rfl ?_
      refine u_c (x := 100) (pc := 56) (dec_at lsk_172 (k := 33) rfl) rfl (by decide) ?_
      refine u_isub (pc := 58) (dec_at lsk_172 (k := 34) rfl) ?_
      refine u_ld (v := .ref 231) (pc := 59) (dec_at lsk_172 (k := 35) rfl) rfl ?_
      refine u_ld (v := iV l1) (pc := 60) (dec_at lsk_172 (k := 36) rfl) rfl ?_
      refine u_ld (v := iV l2) (pc := 61) (dec_at lsk_172 (k := 37) rfl) rfl ?_
      refine u_cvI (As := [iV l1, iV l2]) (rb := 231) (st2 := [iV ((u.1 259 (((u.1 266 l1) * 6) + l2)) - 100), .ref 232]) (pc := 62) (dec_at lsk_172 (k := 38) rfl) m_10_154 (Or.inl rfl) rfl (Nat.le_of_ble_eq_true rfl) sx_231 me_173 rfl ?_ (fun _ _ h_ => h_)
      refine u_of me_173 (Nat.le_of_ble_eq_true rfl) ?_
      refine u_ld (v := iV l2) (pc := 0) (dec_at lsk_173 (k := 0) rfl) rfl ?_
      refine u_ifF (pc := 1) (tgt := 15) (dec_at lsk_173 (k := 1) rfl) rfl (c0_ne g5) (fun e23 => ?_) (fun e23 => ?_)
      · have h := ifT e23 h
        refine u_ld (v := .ref 231) (pc := 4) (dec_at lsk_173 (k := 2) rfl) rfl ?_
        refine u_gS (o := 1) (p := 232) (pc := 5) (dec_at lsk_173 (k := 3) rfl) f_10_12 sx_231 rfl rfl ?_
        refine u_ld (v := iV l1) (pc := 8) (dec_at lsk_173 (k := 4) rfl) rfl ?_
        refine u_cvI (As := [iV l1]) (rb := 232) (st2 := []) (pc := 9) (dec_at lsk_173 (k := 5) rfl) m_10_104 (Or.inl rfl) rfl (Nat.le_of_ble_eq_true rfl) sx_232 me_150 rfl ?_ (fun _ _ h_ => h_)
        refine u_of me_150 (Nat.le_of_ble_eq_true rfl) ?_
        refine u_ld (v := iV l1) (pc := 0) (dec_at lsk_150 (k := 0) rfl) rfl ?_
        refine u_ld (v := .ref 232) (pc := 1) (dec_at lsk_150 (k := 1) rfl) rfl ?_
        refine u_gI (z := 2) (pc := 2) (dec_at lsk_150 (k := 2) rfl) f_11_25 sx_232 rfl rfl ?_
        refine u_idiv (pc := 5) (dec_at lsk_150 (k := 3) rfl) g17 g18 g19 ?_
        refine u_ld (v := .ref 232) (pc := 6) (dec_at lsk_150 (k := 4) rfl) rfl ?_
        refine u_gI (z := 2) (pc := 7) (dec_at lsk_150 (k := 5) rfl) f_11_25 sx_232 rfl rfl ?_
        refine u_irem (pc := 10) (dec_at lsk_150 (k := 6) rfl) g20 g18 g19 ?_
        refine u_rI (pc := 11) (dec_at lsk_150 (k := 7) rfl) rfl ?_
        refine u_goto (pc := 12) (tgt := 31) (dec_at lsk_173 (k := 6) rfl) rfl ?_
        refine u_rI (pc := 31) (dec_at lsk_173 (k := 19) rfl) rfl ?_
        refine u_ld (v := iV ((l1.tdiv (u.1 232 2)).tmod (u.1 232 2))) (pc := 65) (dec_at lsk_172 (k := 39) rfl) rfl ?_
        refine u_cvI (As := [iV ((u.1 259 (((u.1 266 l1) * 6) + l2)) - 100), iV ((l1.tdiv (u.1 232 2)).tmod (u.1 232 2)), iV ((l1.tdiv (u.1 232 2)).tmod (u.1 232 2))]) (rb := 232) (st2 := []) (pc := 67) (dec_at lsk_172 (k := 40) rfl) m_10_141 (Or.inl rfl) rfl (Nat.le_of_ble_eq_true rfl) sx_232 me_147 rfl ?_ (fun _ _ h_ => h_)
        refine u_of me_147 (Nat.le_of_ble_eq_true rfl) ?_
        refine u_ld (v := iV ((u.1 259 (((u.1 266 l1) * 6) + l2)) - 100)) (pc := 0) (dec_at lsk_147 (k := 0) rfl) rfl ?_
        refine u_ld (v := .ref 232) (pc := 1) (dec_at lsk_147 (k := 1) rfl) rfl ?_
        refine u_gI (z := 2) (pc := 2) (dec_at lsk_147 (k := 2) rfl) f_11_25 sx_232 rfl rfl ?_
        refine u_imul (pc := 5) (dec_at lsk_147 (k := 3) rfl) ?_
        refine u_ld (v := iV ((l1.tdiv (u.1 232 2)).tmod (u.1 232 2))) (pc := 6) (dec_at lsk_147 (k := 4) rfl) rfl ?_
        refine u_iadd (pc := 7) (dec_at lsk_147 (k := 5) rfl) ?_
        refine u_ld (v := .ref 232) (pc := 8) (dec_at lsk_147 (k := 6) rfl) rfl ?_
        refine u_gI (z := 2) (pc := 9) (dec_at lsk_147 (k := 7) rfl) f_11_25 sx_232 rfl rfl ?_
        refine u_imul (pc := 12) (dec_at lsk_147 (k := 8) rfl) ?_
        refine u_ld (v := iV ((l1.tdiv (u.1 232 2)).tmod (u.1 232 2))) (pc := 13) (dec_at lsk_147 (k := 9) rfl) rfl ?_
        refine u_iadd (pc := 14) (dec_at lsk_147 (k := 10) rfl) ?_
        refine u_rI (pc := 15) (dec_at lsk_147 (k := 11) rfl) rfl ?_
        exact u_rI (pc := 70) (dec_at lsk_172 (k := 41) rfl) rfl h
      · have h := ifF e23 h
        refine u_ld (v := .ref 231) (pc := 15) (dec_at lsk_173 (k := 7) rfl) rfl ?_
        refine u_gS (o := 36) (p := 267) (pc := 16) (dec_at lsk_173 (k := 8) rfl) f_10_36 sx_231 rfl rfl ?_
        refine u_ld (v := iV l1) (pc := 19) (dec_at lsk_173 (k := 9) rfl) rfl ?_
        refine u_iald (pc := 20) (dec_at lsk_173 (k := 10) rfl) sx_267 g1 g2 ?_
        refine u_c (x := 6) (pc := 21) (dec_at lsk_173 (k := 11) rfl) rfl (by decide) ?_
        refine u_ld (v := iV l2) (pc := 23) (dec_at lsk_173 (k := 12) rfl) rfl ?_
        refine u_ld (v := iV 1) (pc := 24) (dec_at lsk_173 (k := 13) rfl) rfl ?_
        refine u_isub (pc := 25) (dec_at lsk_173 (k := 14) rfl) ?_
        refine u_imul (pc := 26) (dec_at lsk_173 (k := 15) rfl) ?_
        refine u_iushr (pc := 27) (dec_at lsk_173 (k := 16) rfl) ?_
        refine u_c (x := 63) (pc := 28) (dec_at lsk_173 (k := 17) rfl) rfl (by decide) ?_
        refine u_iand (pc := 30) (dec_at lsk_173 (k := 18) rfl) ?_
        refine u_rI (pc := 31) (dec_at lsk_173 (k := 19) rfl) rfl ?_
        refine u_ld (v := iV ((l1.tdiv (u.1 232 2)).tmod (u.1 232 2))) (pc := 65) (dec_at lsk_172 (k := 39) rfl) rfl ?_
        refine u_cvI (As := [iV ((u.1 259 (((u.1 266 l1) * 6) + l2)) - 100), iV (iand (iushr (u.1 267 l1) (6 * (l2 - 1))) 63), iV ((l1.tdiv (u.1 232 2)).tmod (u.1 232 2))]) (rb := 232) (st2 := []) (pc := 67) (dec_at lsk_172 (k := 40) rfl) m_10_141 (Or.inl rfl) rfl (Nat.le_of_ble_eq_true rfl) sx_232 me_147 rfl ?_ (fun _ _ h_ => h_)
        refine u_of me_147 (Nat.le_of_ble_eq_true rfl) ?_
        refine u_ld (v := iV ((u.1 259 (((u.1 266 l1) * 6) + l2)) - 100)) (pc := 0) (dec_at lsk_147 (k := 0) rfl) rfl ?_
        refine u_ld (v := .ref 232) (pc := 1) (dec_at lsk_147 (k := 1) rfl) rfl ?_
        refine u_gI (z := 2) (pc := 2) (dec_at lsk_147 (k := 2) rfl) f_11_25 sx_232 rfl rfl ?_
        refine u_imul (pc := 5) (dec_at lsk_147 (k := 3) rfl) ?_
        refine u_ld (v := iV (iand (iushr (u.1 267 l1) (6 * (l2 - 1))) 63)) (pc := 6) (dec_at lsk_147 (k := 4) rfl) rfl ?_
        refine u_iadd (pc := 7) (dec_at lsk_147 (k := 5) rfl) ?_
        refine u_ld (v := .ref 232) (pc := 8) (dec_at lsk_147 (k := 6) rfl) rfl ?_
        refine u_gI (z := 2) (pc := 9) (dec_at lsk_147 (k := 7) rfl) f_11_25 sx_232 rfl rfl ?_
        refine u_imul (pc := 12) (dec_at lsk_147 (k := 8) rfl) ?_
        refine u_ld (v := iV ((l1.tdiv (u.1 232 2)).tmod (u.1 232 2))) (pc := 13) (dec_at lsk_147 (k := 9) rfl) rfl ?_
        refine u_iadd (pc := 14) (dec_at lsk_147 (k := 10) rfl) ?_
        refine u_rI (pc := 15) (dec_at lsk_147 (k := 11) rfl) rfl ?_
        exact u_rI (pc := 70) (dec_at lsk_172 (k := 41) rfl) rfl h
    · have h := ifF e16 h
      refine u_ld (v := .ref 231) (pc := 15) (dec_at lsk_173 (k := 7) rfl) rfl ?_
      refine u_gS (o := 36) (p := 267) (pc := 16) (dec_at lsk_173 (k := 8) rfl) f_10_36 sx_231 rfl rfl ?_
      refine u_ld (v := iV l1) (pc := 19) (dec_at lsk_173 (k := 9) rfl) rfl ?_
      refine u_iald (pc := 20) (dec_at lsk_173 (k := 10) rfl) sx_267 g1 g2 ?_
      refine u_c (x := 6) (pc := 21) (dec_at lsk_173 (k := 11) rfl) rfl (by decide) ?_
      refine u_ld (v := iV (l2 + 1)) (pc := 23) (dec_at lsk_173 (k := 12) rfl) rfl ?_
      refine u_ld (v := iV 1) (pc := 24) (dec_at lsk_173 (k := 13) rfl) rfl ?_
      refine u_isub (pc := 25) (dec_at lsk_173 (k := 14) rfl) ?_
      refine u_imul (pc := 26) (dec_at lsk_173 (k := 15) rfl) ?_
      refine u_iushr (pc := 27) (dec_at lsk_173 (k := 16) rfl) ?_
      refine u_c (x := 63) (pc := 28) (dec_at lsk_173 (k := 17) rfl) rfl (by decide) ?_
      refine u_iand (pc := 30) (dec_at lsk_173 (k := 18) rfl) ?_
      refine u_rI (pc := 31) (dec_at lsk_173 (k := 19) rfl) rfl ?_
      refine u_sto (lv' := [.ref 231, iV l1, iV l2, iV (u.1 266 l1), iV (iand (iushr (u.1 267 l1) (6 * ((l2 + 1) - 1))) 63)]) (pc := 41) (dec_at lsk_172 (k := 25) rfl) rfl ?_
      refine u_ld (v := .ref 231) (pc := 43) (dec_at lsk_172 (k := 26) rfl) rfl ?_
      refine u_gS (o := 1) (p := 232) (pc := 44) (dec_at lsk_172 (k := 27) rfl) f_10_12 sx_231 rfl rfl ?_
      refine u_ld (v := .ref 231) (pc := 47) (dec_at lsk_172 (k := 28) rfl) rfl ?_
      refine u_gS (o := 24) (p := 255) (pc := 48) (dec_at lsk_172 (k := 29) rfl) f_10_21 sx_231 rfl rfl ?_
      refine u_ld (v := iV (u.1 266 l1)) (pc := 51) (dec_at lsk_172 (k := 30) rfl) rfl ?_
      refine u_ld (v := iV l2) (pc := 52) (dec_at lsk_172 (k := 31) rfl) rfl ?_
      refine u_cvI (As := [iV (u.1 266 l1), iV l2]) (rb := 255) (st2 := [.ref 232]) (pc := 53) (dec_at lsk_172 (k := 32) rfl) m_10_128 (Or.inl rfl) rfl (Nat.le_of_ble_eq_true rfl) sx_255 me_42 rfl ?_ (fun _ _ h_ => h_)
      refine u_of me_42 (Nat.le_of_ble_eq_true rfl) ?_
      refine u_ld (v := .ref 255) (pc := 0) (dec_at lsk_42 (k := 0) rfl) rfl ?_
      refine u_gS (o := 4) (p := 259) (pc := 1) (dec_at lsk_42 (k := 1) rfl) f_2_21 sx_255 rfl rfl ?_
      refine u_ld (v := iV (u.1 266 l1)) (pc := 4) (dec_at lsk_42 (k := 2) rfl) rfl ?_
      refine u_c (x := 6) (pc := 5) (dec_at lsk_42 (k := 3) rfl) rfl (by decide) ?_
      refine u_imul (pc := 7) (dec_at lsk_42 (k := 4) rfl) ?_
      refine u_ld (v := iV l2) (pc := 8) (dec_at lsk_42 (k := 5) rfl) rfl ?_
      refine u_iadd (pc := 9) (dec_at lsk_42 (k := 6) rfl) ?_
      have g24 := h.1
      have h := h.2
      have g25 := h.1
      have h := h.2
      refine u_iald (pc := 10) (dec_at lsk_42 (k := 7) rfl) sx_259 g24 g25 ?_
      refine u_rI (pc := 11) (dec_at lsk_42 (k := 8) rfl) rfl ?_
      refine u_c (x := 100) (pc := 56) (dec_at lsk_172 (k := 33) rfl) rfl (by decide) ?_
      refine u_isub (pc := 58) (dec_at lsk_172 (k := 34) rfl) ?_
      refine u_ld (v := .ref 231) (pc := 59) (dec_at lsk_172 (k := 35) rfl) rfl ?_
      refine u_ld (v := iV l1) (pc := 60) (dec_at lsk_172 (k := 36) rfl) rfl ?_
      refine u_ld (v := iV l2) (pc := 61) (dec_at lsk_172 (k := 37) rfl) rfl ?_
      refine u_cvI (As := [iV l1, iV l2]) (rb := 231) (st2 := [iV ((u.1 259 (((u.1 266 l1) * 6) + l2)) - 100), .ref 232]) (pc := 62) (dec_at lsk_172 (k := 38) rfl) m_10_154 (Or.inl rfl) rfl (Nat.le_of_ble_eq_true rfl) sx_231 me_173 rfl ?_ (fun _ _ h_ => h_)
      refine u_of me_173 (Nat.le_of_ble_eq_true rfl) ?_
      refine u_ld (v := iV l2) (pc := 0) (dec_at lsk_173 (k := 0) rfl) rfl ?_
      refine u_ifF (pc := 1) (tgt := 15) (dec_at lsk_173 (k := 1) rfl) rfl (c0_ne g5) (fun e26 => ?_) (fun e26 => ?_)
      · have h := ifT e26 h
        refine u_ld (v := .ref 231) (pc := 4) (dec_at lsk_173 (k := 2) rfl) rfl ?_
        refine u_gS (o := 1) (p := 232) (pc := 5) (dec_at lsk_173 (k := 3) rfl) f_10_12 sx_231 rfl rfl ?_
        refine u_ld (v := iV l1) (pc := 8) (dec_at lsk_173 (k := 4) rfl) rfl ?_
        refine u_cvI (As := [iV l1]) (rb := 232) (st2 := []) (pc := 9) (dec_at lsk_173 (k := 5) rfl) m_10_104 (Or.inl rfl) rfl (Nat.le_of_ble_eq_true rfl) sx_232 me_150 rfl ?_ (fun _ _ h_ => h_)
        refine u_of me_150 (Nat.le_of_ble_eq_true rfl) ?_
        refine u_ld (v := iV l1) (pc := 0) (dec_at lsk_150 (k := 0) rfl) rfl ?_
        refine u_ld (v := .ref 232) (pc := 1) (dec_at lsk_150 (k := 1) rfl) rfl ?_
        refine u_gI (z := 2) (pc := 2) (dec_at lsk_150 (k := 2) rfl) f_11_25 sx_232 rfl rfl ?_
        have g27 := h.1
        have h := h.2
        have g28 := h.1
        have h := h.2
        have g29 := h.1
        have h := h.2
        refine u_idiv (pc := 5) (dec_at lsk_150 (k := 3) rfl) g27 g28 g29 ?_
        refine u_ld (v := .ref 232) (pc := 6) (dec_at lsk_150 (k := 4) rfl) rfl ?_
        refine u_gI (z := 2) (pc := 7) (dec_at lsk_150 (k := 5) rfl) f_11_25 sx_232 rfl rfl ?_
        have g30 := h.1
        have h := h.2
        refine u_irem (pc := 10) (dec_at lsk_150 (k := 6) rfl) g30 g28 g29 ?_
        refine u_rI (pc := 11) (dec_at lsk_150 (k := 7) rfl) rfl ?_
        refine u_goto (pc := 12) (tgt := 31) (dec_at lsk_173 (k := 6) rfl) rfl ?_
        refine u_rI (pc := 31) (dec_at lsk_173 (k := 19) rfl) rfl ?_
        refine u_ld (v := iV (iand (iushr (u.1 267 l1) (6 * ((l2 + 1) - 1))) 63)) (pc := 65) (dec_at lsk_172 (k := 39) rfl) rfl ?_
        refine u_cvI (As := [iV ((u.1 259 (((u.1 266 l1) * 6) + l2)) - 100), iV ((l1.tdiv (u.1 232 2)).tmod (u.1 232 2)), iV (iand (iushr (u.1 267 l1) (6 * ((l2 + 1) - 1))) 63)]) (rb := 232) (st2 := []) (pc := 67) (dec_at lsk_172 (k := 40) rfl) m_10_141 (Or.inl rfl) rfl (Nat.le_of_ble_eq_true rfl) sx_232 me_147 rfl ?_ (fun _ _ h_ => h_)
        refine u_of me_147 (Nat.le_of_ble_eq_true rfl) ?_
        refine u_ld (v := iV ((u.1 259 (((u.1 266 l1) * 6) + l2)) - 100)) (pc := 0) (dec_at lsk_147 (k := 0) rfl) rfl ?_
        refine u_ld (v := .ref 232) (pc := 1) (dec_at lsk_147 (k := 1) rfl) rfl ?_
        refine u_gI (z := 2) (pc := 2) (dec_at lsk_147 (k := 2) rfl) f_11_25 sx_232 rfl rfl ?_
        refine u_imul (pc := 5) (dec_at lsk_147 (k := 3) rfl) ?_
        refine u_ld (v := iV ((l1.tdiv (u.1 232 2)).tmod (u.1 232 2))) (pc := 6) (dec_at lsk_147 (k := 4) rfl) rfl ?_
        refine u_iadd (pc := 7) (dec_at lsk_147 (k := 5) rfl) ?_
        refine u_ld (v := .ref 232) (pc := 8) (dec_at lsk_147 (k := 6) rfl) rfl ?_
        refine u_gI (z := 2) (pc := 9) (dec_at lsk_147 (k := 7) rfl) f_11_25 sx_232 rfl rfl ?_
        refine u_imul (pc := 12) (dec_at lsk_147 (k := 8) rfl) ?_
        refine u_ld (v := iV (iand (iushr (u.1 267 l1) (6 * ((l2 + 1) - 1))) 63)) (pc := 13) (dec_at lsk_147 (k := 9) rfl) rfl ?_
        refine u_iadd (pc := 14) (dec_at lsk_147 (k := 10) rfl) ?_
        refine u_rI (pc := 15) (dec_at lsk_147 (k := 11) rfl) rfl ?_
        exact u_rI (pc := 70) (dec_at lsk_172 (k := 41) rfl) rfl h
      · have h := ifF e26 h
        refine u_ld (v := .ref 231) (pc := 15) (dec_at lsk_173 (k := 7) rfl) rfl ?_
        refine u_gS (o := 36) (p := 267) (pc := 16) (dec_at lsk_173 (k := 8) rfl) f_10_36 sx_231 rfl rfl ?_
        refine u_ld (v := iV l1) (pc := 19) (dec_at lsk_173 (k := 9) rfl) rfl ?_
        refine u_iald (pc := 20) (dec_at lsk_173 (k := 10) rfl) sx_267 g1 g2 ?_
        refine u_c (x := 6) (pc := 21) (dec_at lsk_173 (k := 11) rfl) rfl (by decide) ?_
        refine u_ld (v := iV l2) (pc := 23) (dec_at lsk_173 (k := 12) rfl) rfl ?_
        refine u_ld (v := iV 1) (pc := 24) (dec_at lsk_173 (k := 13) rfl) rfl ?_
        refine u_isub (pc := 25) (dec_at lsk_173 (k := 14) rfl) ?_
        refine u_imul (pc := 26) (dec_at lsk_173 (k := 15) rfl) ?_
        refine u_iushr (pc := 27) (dec_at lsk_173 (k := 16) rfl) ?_
        refine u_c (x := 63) (pc := 28) (dec_at lsk_173 (k := 17) rfl) rfl (by decide) ?_
        refine u_iand (pc := 30) (dec_at lsk_173 (k := 18) rfl) ?_
        refine u_rI (pc := 31) (dec_at lsk_173 (k := 19) rfl) rfl ?_
        refine u_ld (v := iV (iand (iushr (u.1 267 l1) (6 * ((l2 + 1) - 1))) 63)) (pc := 65) (dec_at lsk_172 (k := 39) rfl) rfl ?_
        refine u_cvI (As := [iV ((u.1 259 (((u.1 266 l1) * 6) + l2)) - 100), iV (iand (iushr (u.1 267 l1) (6 * (l2 - 1))) 63), iV (iand (iushr (u.1 267 l1) (6 * ((l2 + 1) - 1))) 63)]) (rb := 232) (st2 := []) (pc := 67) (dec_at lsk_172 (k := 40) rfl) m_10_141 (Or.inl rfl) rfl (Nat.le_of_ble_eq_true rfl) sx_232 me_147 rfl ?_ (fun _ _ h_ => h_)
        refine u_of me_147 (Nat.le_of_ble_eq_true rfl) ?_
        refine u_ld (v := iV ((u.1 259 (((u.1 266 l1) * 6) + l2)) - 100)) (pc := 0) (dec_at lsk_147 (k := 0) rfl) rfl ?_
        refine u_ld (v := .ref 232) (pc := 1) (dec_at lsk_147 (k := 1) rfl) rfl ?_
        refine u_gI (z := 2) (pc := 2) (dec_at lsk_147 (k := 2) rfl) f_11_25 sx_232 rfl rfl ?_
        refine u_imul (pc := 5) (dec_at lsk_147 (k := 3) rfl) ?_
        refine u_ld (v := iV (iand (iushr (u.1 267 l1) (6 * (l2 - 1))) 63)) (pc := 6) (dec_at lsk_147 (k := 4) rfl) rfl ?_
        refine u_iadd (pc := 7) (dec_at lsk_147 (k := 5) rfl) ?_
        refine u_ld (v := .ref 232) (pc := 8) (dec_at lsk_147 (k := 6) rfl) rfl ?_
        refine u_gI (z := 2) (pc := 9) (dec_at lsk_147 (k := 7) rfl) f_11_25 sx_232 rfl rfl ?_
        refine u_imul (pc := 12) (dec_at lsk_147 (k := 8) rfl) ?_
        refine u_ld (v := iV (iand (iushr (u.1 267 l1) (6 * ((l2 + 1) - 1))) 63)) (pc := 13) (dec_at lsk_147 (k := 9) rfl) rfl ?_
        refine u_iadd (pc := 14) (dec_at lsk_147 (k := 10) rfl) ?_
        refine u_rI (pc := 15) (dec_at lsk_147 (k := 11) rfl) rfl ?_
        exact u_rI (pc := 70) (dec_at lsk_172 (k := 41) rfl) rfl h
/-- method 173 -/
def K_173 (d pc : Nat) (lv : ev_L) (st : List Value) (u : uS) (Q : Int → uS → Prop) : Prop := okU d 10 3 false (some .int) prog_12_method_12_code (qI Q) pc lv st u
theorem e_173 {d : Nat} {Q : Int → uS → Prop} {u : uS} {l1 l2 : Int} (h : (rI l2) ∧ (if l2 = 0 then ((rI l1) ∧ ((rI (u.1 232 2)) ∧ (((u.1 232 2) ≠ 0) ∧ ((rI (l1.tdiv (u.1 232 2))) ∧ (Q ((l1.tdiv (u.1 232 2)).tmod (u.1 232 2)) u))))) else ((0 ≤ l1) ∧ ((l1 < 16000) ∧ (Q (iand (iushr (u.1 267 l1) (6 * (l2 - 1))) 63) u))))) : cI (d + 2) 173 [.ref 231, iV l1, iV l2] u Q := by
  refine u_of me_173 (Nat.le_of_ble_eq_true rfl) ?_
  refine u_ld (v := iV l2) (pc := 0) (dec_at lsk_173 (k := 0) rfl) rfl ?_
  have g1 := h.1
  have h := h.2
  refine u_ifF (pc := 1) (tgt := 15) (dec_at lsk_173 (k := 1) rfl) rfl (c0_ne g1) (fun e2 => ?_) (fun e2 => ?_)
  · have h := ifT e2 h
    refine u_ld (v := .ref 231) (pc := 4) (dec_at lsk_173 (k := 2) rfl) rfl ?_
    refine u_gS (o := 1) (p := 232) (pc := 5) (dec_at lsk_173 (k := 3) rfl) f_10_12 sx_231 rfl rfl ?_
    refine u_ld (v := iV l1) (pc := 8) (dec_at lsk_173 (k := 4) rfl) rfl ?_
    refine u_cvI (As := [iV l1]) (rb := 232) (st2 := []) (pc := 9) (dec_at lsk_173 (k := 5) rfl) m_10_104 (Or.inl rfl) rfl (Nat.le_of_ble_eq_true rfl) sx_232 me_150 rfl ?_ (fun _ _ h_ => h_)
    refine u_of me_150 (Nat.le_of_ble_eq_true rfl) ?_
    refine u_ld (v := iV l1) (pc := 0) (dec_at lsk_150 (k := 0) rfl) rfl ?_
    refine u_ld (v := .ref 232) (pc := 1) (dec_at lsk_150 (k := 1) rfl) rfl ?_
    refine u_gI (z := 2) (pc := 2) (dec_at lsk_150 (k := 2) rfl) f_11_25 sx_232 rfl rfl ?_
    have g3 := h.1
    have h := h.2
    have g4 := h.1
    have h := h.2
    have g5 := h.1
    have h := h.2
    refine u_idiv (pc := 5) (dec_at lsk_150 (k := 3) rfl) g3 g4 g5 ?_
    refine u_ld (v := .ref 232) (pc := 6) (dec_at lsk_150 (k := 4) rfl) rfl ?_
    refine u_gI (z := 2) (pc := 7) (dec_at lsk_150 (k := 5) rfl) f_11_25 sx_232 rfl rfl ?_
    have g6 := h.1
    have h := h.2
    refine u_irem (pc := 10) (dec_at lsk_150 (k := 6) rfl) g6 g4 g5 ?_
    refine u_rI (pc := 11) (dec_at lsk_150 (k := 7) rfl) rfl ?_
    refine u_goto (pc := 12) (tgt := 31) (dec_at lsk_173 (k := 6) rfl) rfl ?_
    exact u_rI (pc := 31) (dec_at lsk_173 (k := 19) rfl) rfl h
  · have h := ifF e2 h
    refine u_ld (v := .ref 231) (pc := 15) (dec_at lsk_173 (k := 7) rfl) rfl ?_
    refine u_gS (o := 36) (p := 267) (pc := 16) (dec_at lsk_173 (k := 8) rfl) f_10_36 sx_231 rfl rfl ?_
    refine u_ld (v := iV l1) (pc := 19) (dec_at lsk_173 (k := 9) rfl) rfl ?_
    have g7 := h.1
    have h := h.2
    have g8 := h.1
    have h := h.2
    refine u_iald (pc := 20) (dec_at lsk_173 (k := 10) rfl) sx_267 g7 g8 ?_
    refine u_c (x := 6) (pc := 21) (dec_at lsk_173 (k := 11) rfl) rfl (by decide) ?_
    refine u_ld (v := iV l2) (pc := 23) (dec_at lsk_173 (k := 12) rfl) rfl ?_
    refine u_ld (v := iV 1) (pc := 24) (dec_at lsk_173 (k := 13) rfl) rfl ?_
    refine u_isub (pc := 25) (dec_at lsk_173 (k := 14) rfl) ?_
    refine u_imul (pc := 26) (dec_at lsk_173 (k := 15) rfl) ?_
    refine u_iushr (pc := 27) (dec_at lsk_173 (k := 16) rfl) ?_
    refine u_c (x := 63) (pc := 28) (dec_at lsk_173 (k := 17) rfl) rfl (by decide) ?_
    refine u_iand (pc := 30) (dec_at lsk_173 (k := 18) rfl) ?_
    exact u_rI (pc := 31) (dec_at lsk_173 (k := 19) rfl) rfl h
/-- method 174 -/
def K_174 (d pc : Nat) (lv : ev_L) (st : List Value) (u : uS) (Q : Int → uS → Prop) : Prop := okU d 10 6 false (some .long) prog_12_method_15_code (qL Q) pc lv st u
theorem e_174 {d : Nat} {Q : Int → uS → Prop} {u : uS} {l1 : Int} (h : (0 ≤ l1) ∧ ((l1 < 16000) ∧ (K_174 (d + 1) 12 [.ref 231, iV l1, iV (u.1 266 l1), lV 1, .retAddr 0, iV 0] [] u Q))) : cL (d + 2) 174 [.ref 231, iV l1] u Q := by
  refine u_of me_174 (Nat.le_of_ble_eq_true rfl) ?_
  refine u_ld (v := .ref 231) (pc := 0) (dec_at lsk_174 (k := 0) rfl) rfl ?_
  refine u_gS (o := 35) (p := 266) (pc := 1) (dec_at lsk_174 (k := 1) rfl) f_10_32 sx_231 rfl rfl ?_
  refine u_ld (v := iV l1) (pc := 4) (dec_at lsk_174 (k := 2) rfl) rfl ?_
  have g1 := h.1
  have h := h.2
  have g2 := h.1
  have h := h.2
  refine u_iald (pc := 5) (dec_at lsk_174 (k := 3) rfl) sx_266 g1 g2 ?_
  refine u_sto (lv' := [.ref 231, iV l1, iV (u.1 266 l1), .retAddr 0, .retAddr 0, .retAddr 0]) (pc := 6) (dec_at lsk_174 (k := 4) rfl) rfl ?_
  refine u_cl (x := 1) (pc := 7) (dec_at lsk_174 (k := 5) rfl) rfl (by decide) ?_
  refine u_sto (lv' := [.ref 231, iV l1, iV (u.1 266 l1), lV 1, .retAddr 0, .retAddr 0]) (pc := 8) (dec_at lsk_174 (k := 6) rfl) rfl ?_
  refine u_ld (v := iV 0) (pc := 9) (dec_at lsk_174 (k := 7) rfl) rfl ?_
  refine u_sto (lv' := [.ref 231, iV l1, iV (u.1 266 l1), lV 1, .retAddr 0, iV 0]) (pc := 10) (dec_at lsk_174 (k := 8) rfl) rfl ?_
  exact h
theorem k_174_12 {d : Nat} {Q : Int → uS → Prop} {u : uS} {l1 l2 l3 l5 : Int} (h : (0 ≤ l2) ∧ ((l2 < 30) ∧ ((rI l5) ∧ ((rI (u.1 258 l2)) ∧ (if l5 < u.1 258 l2 then ((0 ≤ (l2 * 6) + l5) ∧ (((l2 * 6) + l5 < 180) ∧ ((rI (u.1 259 ((l2 * 6) + l5))) ∧ (if u.1 259 ((l2 * 6) + l5) < 100 then (K_174 (d + 1) 12 [.ref 231, iV l1, iV l2, lV l3, .retAddr 0, iV (l5 + 1)] [] u Q) else (cI (d + 1) 172 [.ref 231, iV l1, iV l5] u (fun r11 u10 => (0 ≤ r11) ∧ ((r11 < 16000) ∧ ((cn 9000000000000000000 l3) ∧ ((cn 9000000000000000000 (u10.1 268 r11)) ∧ (K_174 (d + 1) 12 [.ref 231, iV l1, iV l2, lV (pl 9000000000000000000 l3 (u10.1 268 r11)), .retAddr 0, iV (l5 + 1)] [] u10 Q)))))))))) else (Q l3 u)))))) : K_174 (d + 1) 12 [.ref 231, iV l1, iV l2, lV l3, .retAddr 0, iV l5] [] u Q := by
  unfold K_174
  refine u_ld (v := iV l5) (pc := 12) (dec_at lsk_174 (k := 9) rfl) rfl ?_
  refine u_ld (v := .ref 231) (pc := 14) (dec_at lsk_174 (k := 10) rfl) rfl ?_
  refine u_gS (o := 24) (p := 255) (pc := 15) (dec_at lsk_174 (k := 11) rfl) f_10_21 sx_231 rfl rfl ?_
  refine u_gS (o := 3) (p := 258) (pc := 18) (dec_at lsk_174 (k := 12) rfl) f_10_107 sx_255 rfl rfl ?_
  refine u_ld (v := iV l2) (pc := 21) (dec_at lsk_174 (k := 13) rfl) rfl ?_
  have g1 := h.1
  have h := h.2
  have g2 := h.1
  have h := h.2
  refine u_iald (pc := 22) (dec_at lsk_174 (k := 14) rfl) sx_258 g1 g2 ?_
  have g3 := h.1
  have h := h.2
  have g4 := h.1
  have h := h.2
  refine u_icF (pc := 23) (tgt := 64) (dec_at lsk_174 (k := 15) rfl) rfl (ci_ge g3 g4) (fun e5 => ?_) (fun e5 => ?_)
  · have h := ifT e5 h
    refine u_ld (v := .ref 231) (pc := 26) (dec_at lsk_174 (k := 16) rfl) rfl ?_
    refine u_gS (o := 24) (p := 255) (pc := 27) (dec_at lsk_174 (k := 17) rfl) f_10_21 sx_231 rfl rfl ?_
    refine u_ld (v := iV l2) (pc := 30) (dec_at lsk_174 (k := 18) rfl) rfl ?_
    refine u_ld (v := iV l5) (pc := 31) (dec_at lsk_174 (k := 19) rfl) rfl ?_
    refine u_cvI (As := [iV l2, iV l5]) (rb := 255) (st2 := []) (pc := 33) (dec_at lsk_174 (k := 20) rfl) m_10_128 (Or.inl rfl) rfl (Nat.le_of_ble_eq_true rfl) sx_255 me_42 rfl ?_ (fun _ _ h_ => h_)
    refine u_of me_42 (Nat.le_of_ble_eq_true rfl) ?_
    refine u_ld (v := .ref 255) (pc := 0) (dec_at lsk_42 (k := 0) rfl) rfl ?_
    refine u_gS (o := 4) (p := 259) (pc := 1) (dec_at lsk_42 (k := 1) rfl) f_2_21 sx_255 rfl rfl ?_
    refine u_ld (v := iV l2) (pc := 4) (dec_at lsk_42 (k := 2) rfl) rfl ?_
    refine u_c (x := 6) (pc := 5) (dec_at lsk_42 (k := 3) rfl) rfl (by decide) ?_
    refine u_imul (pc := 7) (dec_at lsk_42 (k := 4) rfl) ?_
    refine u_ld (v := iV l5) (pc := 8) (dec_at lsk_42 (k := 5) rfl) rfl ?_
    refine u_iadd (pc := 9) (dec_at lsk_42 (k := 6) rfl) ?_
    have g6 := h.1
    have h := h.2
    have g7 := h.1
    have h := h.2
    refine u_iald (pc := 10) (dec_at lsk_42 (k := 7) rfl) sx_259 g6 g7 ?_
    refine u_rI (pc := 11) (dec_at lsk_42 (k := 8) rfl) rfl ?_
    refine u_c (x := 100) (pc := 36) (dec_at lsk_174 (k := 21) rfl) rfl (by decide) ?_
    have g8 := h.1
    have h := h.2
    refine u_icT (pc := 38) (tgt := 58) (dec_at lsk_174 (k := 22) rfl) rfl (ci_lt g8 (by decide)) (fun e9 => ?_) (fun e9 => ?_)
    · have h := ifT e9 h
      refine u_inc (lv' := [.ref 231, iV l1, iV l2, lV l3, .retAddr 0, iV (l5 + 1)]) (pc := 58) (dec_at lsk_174 (k := 33) rfl) rfl (by decide) rfl ?_
      refine u_goto (pc := 61) (tgt := 12) (dec_at lsk_174 (k := 34) rfl) rfl ?_
      exact h
    · have h := ifF e9 h
      refine u_ld (v := lV l3) (pc := 41) (dec_at lsk_174 (k := 23) rfl) rfl ?_
      refine u_ld (v := .ref 231) (pc := 42) (dec_at lsk_174 (k := 24) rfl) rfl ?_
      refine u_gS (o := 37) (p := 268) (pc := 43) (dec_at lsk_174 (k := 25) rfl) f_10_39 sx_231 rfl rfl ?_
      refine u_ld (v := .ref 231) (pc := 46) (dec_at lsk_174 (k := 26) rfl) rfl ?_
      refine u_ld (v := iV l1) (pc := 47) (dec_at lsk_174 (k := 27) rfl) rfl ?_
      refine u_ld (v := iV l5) (pc := 48) (dec_at lsk_174 (k := 28) rfl) rfl ?_
      refine u_cvI (As := [iV l1, iV l5]) (rb := 231) (st2 := [.ref 268, lV l3]) (pc := 50) (dec_at lsk_174 (k := 29) rfl) m_10_157 (Or.inl rfl) rfl (Nat.le_of_ble_eq_true rfl) sx_231 me_172 rfl h (fun r11 u10 h => ?_)
      have g12 := h.1
      have h := h.2
      have g13 := h.1
      have h := h.2
      refine u_lald (pc := 53) (dec_at lsk_174 (k := 30) rfl) sx_268 g12 g13 ?_
      have g14 := h.1
      have h := h.2
      have g15 := h.1
      have h := h.2
      refine u_csL (As := [lV l3, lV (u10.1 268 r11)]) (st2 := []) (pc := 54) (dec_at lsk_174 (k := 31) rfl) m_10_134 (Or.inr rfl) rfl (Nat.le_of_ble_eq_true rfl) (p_51 g14 g15) (fun r_ u_ h_ => ?_)
      rw [h_.1, h_.2]
      refine u_sto (lv' := [.ref 231, iV l1, iV l2, lV (pl 9000000000000000000 l3 (u10.1 268 r11)), .retAddr 0, iV l5]) (pc := 57) (dec_at lsk_174 (k := 32) rfl) rfl ?_
      refine u_inc (lv' := [.ref 231, iV l1, iV l2, lV (pl 9000000000000000000 l3 (u10.1 268 r11)), .retAddr 0, iV (l5 + 1)]) (pc := 58) (dec_at lsk_174 (k := 33) rfl) rfl (by decide) rfl ?_
      refine u_goto (pc := 61) (tgt := 12) (dec_at lsk_174 (k := 34) rfl) rfl ?_
      exact h
  · have h := ifF e5 h
    refine u_ld (v := lV l3) (pc := 64) (dec_at lsk_174 (k := 35) rfl) rfl ?_
    exact u_rL (pc := 65) (dec_at lsk_174 (k := 36) rfl) rfl h
/-- method 181 -/
def K_181 (d pc : Nat) (lv : ev_L) (st : List Value) (u : uS) (Q : Int → uS → Prop) : Prop := okU d 10 7 false (some .int) prog_12_method_16_code (qI Q) pc lv st u
theorem e_181 {d : Nat} {Q : Int → uS → Prop} {u : uS} {l1 : Int} (h : (rL l1) ∧ (if l1 < 0 then (Q (-2) u) else ((0 ≤ u.1 232 3) ∧ ((u.1 232 3 < 16000) ∧ ((rL (u.1 244 (u.1 232 3))) ∧ (if l1 < u.1 244 (u.1 232 3) then (∀ u7 : uS, u7 = wr u 231 9 l1 → (K_181 (d + 1) 34 [.ref 231, .retAddr 0, .retAddr 0, iV (u7.1 232 3), iV 0, .retAddr 0, .retAddr 0] [] u7 Q)) else (Q (-2) u))))))) : cI (d + 2) 181 [.ref 231, lV l1] u Q := by
  refine u_of me_181 (Nat.le_of_ble_eq_true rfl) ?_
  refine u_ld (v := lV l1) (pc := 0) (dec_at lsk_181 (k := 0) rfl) rfl ?_
  refine u_cl (x := 0) (pc := 1) (dec_at lsk_181 (k := 1) rfl) rfl (by decide) ?_
  refine u_st (st' := [.int (lg_cmp (Int64.ofInt l1) (Int64.ofInt 0))]) (pc := 2) (dec_at lsk_181 (k := 2) rfl) rfl ?_
  have g1 := h.1
  have h := h.2
  refine u_ifT (pc := 3) (tgt := 15) (dec_at lsk_181 (k := 3) rfl) rfl (cl_lt g1 (by decide)) (fun e2 => ?_) (fun e2 => ?_)
  · have h := ifT e2 h
    refine u_c (x := (-2)) (pc := 15) (dec_at lsk_181 (k := 9) rfl) rfl (by decide) ?_
    exact u_rI (pc := 17) (dec_at lsk_181 (k := 10) rfl) rfl h
  · have h := ifF e2 h
    refine u_ld (v := lV l1) (pc := 6) (dec_at lsk_181 (k := 4) rfl) rfl ?_
    refine u_ld (v := .ref 231) (pc := 7) (dec_at lsk_181 (k := 5) rfl) rfl ?_
    refine u_cvL (As := []) (rb := 231) (st2 := [lV l1]) (pc := 8) (dec_at lsk_181 (k := 6) rfl) m_10_160 (Or.inl rfl) rfl (Nat.le_of_ble_eq_true rfl) sx_231 me_176 rfl ?_ (fun _ _ h_ => h_)
    refine u_of me_176 (Nat.le_of_ble_eq_true rfl) ?_
    refine u_ld (v := .ref 231) (pc := 0) (dec_at lsk_176 (k := 0) rfl) rfl ?_
    refine u_gS (o := 1) (p := 232) (pc := 1) (dec_at lsk_176 (k := 1) rfl) f_10_12 sx_231 rfl rfl ?_
    refine u_gS (o := 12) (p := 244) (pc := 4) (dec_at lsk_176 (k := 2) rfl) f_10_49 sx_232 rfl rfl ?_
    refine u_ld (v := .ref 231) (pc := 7) (dec_at lsk_176 (k := 3) rfl) rfl ?_
    refine u_gS (o := 1) (p := 232) (pc := 8) (dec_at lsk_176 (k := 4) rfl) f_10_12 sx_231 rfl rfl ?_
    refine u_gI (z := 3) (pc := 11) (dec_at lsk_176 (k := 5) rfl) f_10_52 sx_232 rfl rfl ?_
    have g3 := h.1
    have h := h.2
    have g4 := h.1
    have h := h.2
    refine u_lald (pc := 14) (dec_at lsk_176 (k := 6) rfl) sx_244 g3 g4 ?_
    refine u_rL (pc := 15) (dec_at lsk_176 (k := 7) rfl) rfl ?_
    refine u_st (st' := [.int (lg_cmp (Int64.ofInt l1) (Int64.ofInt (u.1 244 (u.1 232 3))))]) (pc := 11) (dec_at lsk_181 (k := 7) rfl) rfl ?_
    have g5 := h.1
    have h := h.2
    refine u_ifT (pc := 12) (tgt := 18) (dec_at lsk_181 (k := 8) rfl) rfl (cl_lt g1 g5) (fun e6 => ?_) (fun e6 => ?_)
    · have h := ifT e6 h
      refine u_ld (v := .ref 231) (pc := 18) (dec_at lsk_181 (k := 11) rfl) rfl ?_
      refine u_ld (v := lV l1) (pc := 19) (dec_at lsk_181 (k := 12) rfl) rfl ?_
      refine u_pL (z := 9) (pc := 20) (dec_at lsk_181 (k := 13) rfl) f_10_164 sx_231 rfl rfl rfl rfl (fun u7 e8 => ?_)
      have h := h u7 e8
      refine u_ld (v := .ref 231) (pc := 23) (dec_at lsk_181 (k := 14) rfl) rfl ?_
      refine u_gS (o := 1) (p := 232) (pc := 24) (dec_at lsk_181 (k := 15) rfl) f_10_12 sx_231 rfl rfl ?_
      refine u_gI (z := 3) (pc := 27) (dec_at lsk_181 (k := 16) rfl) f_10_52 sx_232 rfl rfl ?_
      refine u_sto (lv' := [.ref 231, lV l1, .retAddr 0, iV (u7.1 232 3), .retAddr 0, .retAddr 0, .retAddr 0]) (pc := 30) (dec_at lsk_181 (k := 17) rfl) rfl ?_
      refine u_ld (v := iV 0) (pc := 31) (dec_at lsk_181 (k := 18) rfl) rfl ?_
      refine u_sto (lv' := [.ref 231, lV l1, .retAddr 0, iV (u7.1 232 3), iV 0, .retAddr 0, .retAddr 0]) (pc := 32) (dec_at lsk_181 (k := 19) rfl) rfl ?_
      exact u_weak (sbK (sbD (sbK (sbK (sbK (sbK (sbK sb0))))))) h
    · have h := ifF e6 h
      refine u_c (x := (-2)) (pc := 15) (dec_at lsk_181 (k := 9) rfl) rfl (by decide) ?_
      exact u_rI (pc := 17) (dec_at lsk_181 (k := 10) rfl) rfl h
theorem k_181_34 {d : Nat} {Q : Int → uS → Prop} {u : uS} {l3 l4 : Int} (h : (rI l4) ∧ ((rI (u.1 232 7)) ∧ (if l4 < u.1 232 7 then (cI (d + 1) 182 [.ref 231, iV l3] u (fun r5 u4 => (0 ≤ l3) ∧ ((l3 < 16000) ∧ ((0 ≤ ((u4.1 266 l3) * 6) + r5) ∧ ((((u4.1 266 l3) * 6) + r5 < 180) ∧ ((rI (u4.1 259 (((u4.1 266 l3) * 6) + r5))) ∧ (if u4.1 259 (((u4.1 266 l3) * 6) + r5) < 100 then (Q (u4.1 259 (((u4.1 266 l3) * 6) + r5)) u4) else (cI (d + 1) 172 [.ref 231, iV l3, iV r5] u4 (fun r13 u12 => K_181 (d + 1) 34 [.ref 231, .retAddr 0, .retAddr 0, iV r13, iV (l4 + 1), .retAddr 0, .retAddr 0] [] u12 Q))))))))) else (Q (-2) u)))) : K_181 (d + 1) 34 [.ref 231, .retAddr 0, .retAddr 0, iV l3, iV l4, .retAddr 0, .retAddr 0] [] u Q := by
  unfold K_181
  refine u_ld (v := iV l4) (pc := 34) (dec_at lsk_181 (k := 20) rfl) rfl ?_
  refine u_ld (v := .ref 231) (pc := 36) (dec_at lsk_181 (k := 21) rfl) rfl ?_
  refine u_gS (o := 1) (p := 232) (pc := 37) (dec_at lsk_181 (k := 22) rfl) f_10_12 sx_231 rfl rfl ?_
  refine u_gI (z := 7) (pc := 40) (dec_at lsk_181 (k := 23) rfl) f_10_67 sx_232 rfl rfl ?_
  have g1 := h.1
  have h := h.2
  have g2 := h.1
  have h := h.2
  refine u_icF (pc := 43) (tgt := 94) (dec_at lsk_181 (k := 24) rfl) rfl (ci_ge g1 g2) (fun e3 => ?_) (fun e3 => ?_)
  · have h := ifT e3 h
    refine u_ld (v := .ref 231) (pc := 46) (dec_at lsk_181 (k := 25) rfl) rfl ?_
    refine u_ld (v := iV l3) (pc := 47) (dec_at lsk_181 (k := 26) rfl) rfl ?_
    refine u_cvI (As := [iV l3]) (rb := 231) (st2 := []) (pc := 48) (dec_at lsk_181 (k := 27) rfl) m_10_168 (Or.inl rfl) rfl (Nat.le_of_ble_eq_true rfl) sx_231 me_182 rfl h (fun r5 u4 h => ?_)
    refine u_sto (lv' := [.ref 231, .retAddr 0, .retAddr 0, iV l3, iV l4, iV r5, .retAddr 0]) (pc := 51) (dec_at lsk_181 (k := 28) rfl) rfl ?_
    refine u_ld (v := .ref 231) (pc := 53) (dec_at lsk_181 (k := 29) rfl) rfl ?_
    refine u_gS (o := 24) (p := 255) (pc := 54) (dec_at lsk_181 (k := 30) rfl) f_10_21 sx_231 rfl rfl ?_
    refine u_ld (v := .ref 231) (pc := 57) (dec_at lsk_181 (k := 31) rfl) rfl ?_
    refine u_gS (o := 35) (p := 266) (pc := 58) (dec_at lsk_181 (k := 32) rfl) f_10_32 sx_231 rfl rfl ?_
    refine u_ld (v := iV l3) (pc := 61) (dec_at lsk_181 (k := 33) rfl) rfl ?_
    have g6 := h.1
    have h := h.2
    have g7 := h.1
    have h := h.2
    refine u_iald (pc := 62) (dec_at lsk_181 (k := 34) rfl) sx_266 g6 g7 ?_
    refine u_ld (v := iV r5) (pc := 63) (dec_at lsk_181 (k := 35) rfl) rfl ?_
    refine u_cvI (As := [iV (u4.1 266 l3), iV r5]) (rb := 255) (st2 := []) (pc := 65) (dec_at lsk_181 (k := 36) rfl) m_10_128 (Or.inl rfl) rfl (Nat.le_of_ble_eq_true rfl) sx_255 me_42 rfl ?_ (fun _ _ h_ => h_)
    refine u_of me_42 (Nat.le_of_ble_eq_true rfl) ?_
    refine u_ld (v := .ref 255) (pc := 0) (dec_at lsk_42 (k := 0) rfl) rfl ?_
    refine u_gS (o := 4) (p := 259) (pc := 1) (dec_at lsk_42 (k := 1) rfl) f_2_21 sx_255 rfl rfl ?_
    refine u_ld (v := iV (u4.1 266 l3)) (pc := 4) (dec_at lsk_42 (k := 2) rfl) rfl ?_
    refine u_c (x := 6) (pc := 5) (dec_at lsk_42 (k := 3) rfl) rfl (by decide) ?_
    refine u_imul (pc := 7) (dec_at lsk_42 (k := 4) rfl) ?_
    refine u_ld (v := iV r5) (pc := 8) (dec_at lsk_42 (k := 5) rfl) rfl ?_
    refine u_iadd (pc := 9) (dec_at lsk_42 (k := 6) rfl) ?_
    have g8 := h.1
    have h := h.2
    have g9 := h.1
    have h := h.2
    refine u_iald (pc := 10) (dec_at lsk_42 (k := 7) rfl) sx_259 g8 g9 ?_
    refine u_rI (pc := 11) (dec_at lsk_42 (k := 8) rfl) rfl ?_
    refine u_sto (lv' := [.ref 231, .retAddr 0, .retAddr 0, iV l3, iV l4, iV r5, iV (u4.1 259 (((u4.1 266 l3) * 6) + r5))]) (pc := 68) (dec_at lsk_181 (k := 37) rfl) rfl ?_
    refine u_ld (v := iV (u4.1 259 (((u4.1 266 l3) * 6) + r5))) (pc := 70) (dec_at lsk_181 (k := 38) rfl) rfl ?_
    refine u_c (x := 100) (pc := 72) (dec_at lsk_181 (k := 39) rfl) rfl (by decide) ?_
    have g10 := h.1
    have h := h.2
    refine u_icF (pc := 74) (tgt := 80) (dec_at lsk_181 (k := 40) rfl) rfl (ci_ge g10 (by decide)) (fun e11 => ?_) (fun e11 => ?_)
    · have h := ifT e11 h
      refine u_ld (v := iV (u4.1 259 (((u4.1 266 l3) * 6) + r5))) (pc := 77) (dec_at lsk_181 (k := 41) rfl) rfl ?_
      exact u_rI (pc := 79) (dec_at lsk_181 (k := 42) rfl) rfl h
    · have h := ifF e11 h
      refine u_ld (v := .ref 231) (pc := 80) (dec_at lsk_181 (k := 43) rfl) rfl ?_
      refine u_ld (v := iV l3) (pc := 81) (dec_at lsk_181 (k := 44) rfl) rfl ?_
      refine u_ld (v := iV r5) (pc := 82) (dec_at lsk_181 (k := 45) rfl) rfl ?_
      refine u_cvI (As := [iV l3, iV r5]) (rb := 231) (st2 := []) (pc := 84) (dec_at lsk_181 (k := 46) rfl) m_10_157 (Or.inl rfl) rfl (Nat.le_of_ble_eq_true rfl) sx_231 me_172 rfl h (fun r13 u12 h => ?_)
      refine u_sto (lv' := [.ref 231, .retAddr 0, .retAddr 0, iV r13, iV l4, iV r5, iV (u4.1 259 (((u4.1 266 l3) * 6) + r5))]) (pc := 87) (dec_at lsk_181 (k := 47) rfl) rfl ?_
      refine u_inc (lv' := [.ref 231, .retAddr 0, .retAddr 0, iV r13, iV (l4 + 1), iV r5, iV (u4.1 259 (((u4.1 266 l3) * 6) + r5))]) (pc := 88) (dec_at lsk_181 (k := 48) rfl) rfl (by decide) rfl ?_
      refine u_goto (pc := 91) (tgt := 34) (dec_at lsk_181 (k := 49) rfl) rfl ?_
      exact u_weak (sbK (sbK (sbK (sbK (sbK (sbD (sbD sb0))))))) h
  · have h := ifF e3 h
    refine u_c (x := (-2)) (pc := 94) (dec_at lsk_181 (k := 50) rfl) rfl (by decide) ?_
    exact u_rI (pc := 96) (dec_at lsk_181 (k := 51) rfl) rfl h
/-- method 182 -/
def K_182 (d pc : Nat) (lv : ev_L) (st : List Value) (u : uS) (Q : Int → uS → Prop) : Prop := okU d 10 6 false (some .int) prog_12_method_17_code (qI Q) pc lv st u
theorem e_182 {d : Nat} {Q : Int → uS → Prop} {u : uS} {l1 : Int} (h : (0 ≤ l1) ∧ ((l1 < 16000) ∧ (K_182 (d + 1) 9 [.ref 231, iV l1, iV (u.1 266 l1), iV 0, .retAddr 0, .retAddr 0] [] u Q))) : cI (d + 2) 182 [.ref 231, iV l1] u Q := by
  refine u_of me_182 (Nat.le_of_ble_eq_true rfl) ?_
  refine u_ld (v := .ref 231) (pc := 0) (dec_at lsk_182 (k := 0) rfl) rfl ?_
  refine u_gS (o := 35) (p := 266) (pc := 1) (dec_at lsk_182 (k := 1) rfl) f_10_32 sx_231 rfl rfl ?_
  refine u_ld (v := iV l1) (pc := 4) (dec_at lsk_182 (k := 2) rfl) rfl ?_
  have g1 := h.1
  have h := h.2
  have g2 := h.1
  have h := h.2
  refine u_iald (pc := 5) (dec_at lsk_182 (k := 3) rfl) sx_266 g1 g2 ?_
  refine u_sto (lv' := [.ref 231, iV l1, iV (u.1 266 l1), .retAddr 0, .retAddr 0, .retAddr 0]) (pc := 6) (dec_at lsk_182 (k := 4) rfl) rfl ?_
  refine u_ld (v := iV 0) (pc := 7) (dec_at lsk_182 (k := 5) rfl) rfl ?_
  refine u_sto (lv' := [.ref 231, iV l1, iV (u.1 266 l1), iV 0, .retAddr 0, .retAddr 0]) (pc := 8) (dec_at lsk_182 (k := 6) rfl) rfl ?_
  exact h
theorem k_182_9 {d : Nat} {Q : Int → uS → Prop} {u : uS} {l1 l2 l3 : Int} (h : (0 ≤ l2) ∧ ((l2 < 30) ∧ ((rI l3) ∧ ((rI (u.1 258 l2)) ∧ (if l3 < u.1 258 l2 then ((0 ≤ (l2 * 6) + l3) ∧ (((l2 * 6) + l3 < 180) ∧ ((rI (u.1 259 ((l2 * 6) + l3))) ∧ (if u.1 259 ((l2 * 6) + l3) < 100 then ((rL (u.1 231 9)) ∧ (if u.1 231 9 < 1 then (Q l3 u) else (∀ u12 : uS, u12 = wr u 231 9 ((u.1 231 9) - 1) → (K_182 (d + 1) 9 [.ref 231, iV l1, iV l2, iV (l3 + 1), .retAddr 0, .retAddr 0] [] u12 Q)))) else (cI (d + 1) 172 [.ref 231, iV l1, iV l3] u (fun r15 u14 => (0 ≤ r15) ∧ ((r15 < 16000) ∧ ((rL (u14.1 231 9)) ∧ ((rL (u14.1 244 r15)) ∧ (if u14.1 231 9 < u14.1 244 r15 then (Q l3 u14) else (∀ u21 : uS, u21 = wr u14 231 9 ((u14.1 231 9) - (u14.1 244 r15)) → (K_182 (d + 1) 9 [.ref 231, iV l1, iV l2, iV (l3 + 1), .retAddr 0, .retAddr 0] [] u21 Q)))))))))))) else (Q 0 u)))))) : K_182 (d + 1) 9 [.ref 231, iV l1, iV l2, iV l3, .retAddr 0, .retAddr 0] [] u Q := by
  unfold K_182
  refine u_ld (v := iV l3) (pc := 9) (dec_at lsk_182 (k := 7) rfl) rfl ?_
  refine u_ld (v := .ref 231) (pc := 10) (dec_at lsk_182 (k := 8) rfl) rfl ?_
  refine u_gS (o := 24) (p := 255) (pc := 11) (dec_at lsk_182 (k := 9) rfl) f_10_21 sx_231 rfl rfl ?_
  refine u_gS (o := 3) (p := 258) (pc := 14) (dec_at lsk_182 (k := 10) rfl) f_10_107 sx_255 rfl rfl ?_
  refine u_ld (v := iV l2) (pc := 17) (dec_at lsk_182 (k := 11) rfl) rfl ?_
  have g1 := h.1
  have h := h.2
  have g2 := h.1
  have h := h.2
  refine u_iald (pc := 18) (dec_at lsk_182 (k := 12) rfl) sx_258 g1 g2 ?_
  have g3 := h.1
  have h := h.2
  have g4 := h.1
  have h := h.2
  refine u_icF (pc := 19) (tgt := 85) (dec_at lsk_182 (k := 13) rfl) rfl (ci_ge g3 g4) (fun e5 => ?_) (fun e5 => ?_)
  · have h := ifT e5 h
    refine u_ld (v := .ref 231) (pc := 22) (dec_at lsk_182 (k := 14) rfl) rfl ?_
    refine u_gS (o := 24) (p := 255) (pc := 23) (dec_at lsk_182 (k := 15) rfl) f_10_21 sx_231 rfl rfl ?_
    refine u_ld (v := iV l2) (pc := 26) (dec_at lsk_182 (k := 16) rfl) rfl ?_
    refine u_ld (v := iV l3) (pc := 27) (dec_at lsk_182 (k := 17) rfl) rfl ?_
    refine u_cvI (As := [iV l2, iV l3]) (rb := 255) (st2 := []) (pc := 28) (dec_at lsk_182 (k := 18) rfl) m_10_128 (Or.inl rfl) rfl (Nat.le_of_ble_eq_true rfl) sx_255 me_42 rfl ?_ (fun _ _ h_ => h_)
    refine u_of me_42 (Nat.le_of_ble_eq_true rfl) ?_
    refine u_ld (v := .ref 255) (pc := 0) (dec_at lsk_42 (k := 0) rfl) rfl ?_
    refine u_gS (o := 4) (p := 259) (pc := 1) (dec_at lsk_42 (k := 1) rfl) f_2_21 sx_255 rfl rfl ?_
    refine u_ld (v := iV l2) (pc := 4) (dec_at lsk_42 (k := 2) rfl) rfl ?_
    refine u_c (x := 6) (pc := 5) (dec_at lsk_42 (k := 3) rfl) rfl (by decide) ?_
    refine u_imul (pc := 7) (dec_at lsk_42 (k := 4) rfl) ?_
    refine u_ld (v := iV l3) (pc := 8) (dec_at lsk_42 (k := 5) rfl) rfl ?_
    refine u_iadd (pc := 9) (dec_at lsk_42 (k := 6) rfl) ?_
    have g6 := h.1
    have h := h.2
    have g7 := h.1
    have h := h.2
    refine u_iald (pc := 10) (dec_at lsk_42 (k := 7) rfl) sx_259 g6 g7 ?_
    refine u_rI (pc := 11) (dec_at lsk_42 (k := 8) rfl) rfl ?_
    refine u_c (x := 100) (pc := 31) (dec_at lsk_182 (k := 19) rfl) rfl (by decide) ?_
    have g8 := h.1
    have h := h.2
    refine u_icF (pc := 33) (tgt := 40) (dec_at lsk_182 (k := 20) rfl) rfl (ci_ge g8 (by decide)) (fun e9 => ?_) (fun e9 => ?_)
    · have h := ifT e9 h
      refine u_cl (x := 1) (pc := 36) (dec_at lsk_182 (k := 21) rfl) rfl (by decide) ?_
      refine u_goto (pc := 37) (tgt := 54) (dec_at lsk_182 (k := 22) rfl) rfl ?_
      refine u_sto (lv' := [.ref 231, iV l1, iV l2, iV l3, lV 1, .retAddr 0]) (pc := 54) (dec_at lsk_182 (k := 31) rfl) rfl ?_
      refine u_ld (v := .ref 231) (pc := 56) (dec_at lsk_182 (k := 32) rfl) rfl ?_
      refine u_gL (z := 9) (pc := 57) (dec_at lsk_182 (k := 33) rfl) f_10_164 sx_231 rfl rfl ?_
      refine u_ld (v := lV 1) (pc := 60) (dec_at lsk_182 (k := 34) rfl) rfl ?_
      refine u_st (st' := [.int (lg_cmp (Int64.ofInt (u.1 231 9)) (Int64.ofInt 1))]) (pc := 62) (dec_at lsk_182 (k := 35) rfl) rfl ?_
      have g10 := h.1
      have h := h.2
      refine u_ifF (pc := 63) (tgt := 68) (dec_at lsk_182 (k := 36) rfl) rfl (cl_ge g10 (by decide)) (fun e11 => ?_) (fun e11 => ?_)
      · have h := ifT e11 h
        refine u_ld (v := iV l3) (pc := 66) (dec_at lsk_182 (k := 37) rfl) rfl ?_
        exact u_rI (pc := 67) (dec_at lsk_182 (k := 38) rfl) rfl h
      · have h := ifF e11 h
        refine u_ld (v := .ref 231) (pc := 68) (dec_at lsk_182 (k := 39) rfl) rfl ?_
        refine u_ld (v := .ref 231) (pc := 69) (dec_at lsk_182 (k := 40) rfl) rfl ?_
        refine u_gL (z := 9) (pc := 70) (dec_at lsk_182 (k := 41) rfl) f_10_164 sx_231 rfl rfl ?_
        refine u_ld (v := lV 1) (pc := 73) (dec_at lsk_182 (k := 42) rfl) rfl ?_
        refine u_lsub (pc := 75) (dec_at lsk_182 (k := 43) rfl) ?_
        refine u_pL (z := 9) (pc := 76) (dec_at lsk_182 (k := 44) rfl) f_10_164 sx_231 rfl rfl rfl rfl (fun u12 e13 => ?_)
        have h := h u12 e13
        refine u_inc (lv' := [.ref 231, iV l1, iV l2, iV (l3 + 1), lV 1, .retAddr 0]) (pc := 79) (dec_at lsk_182 (k := 45) rfl) rfl (by decide) rfl ?_
        refine u_goto (pc := 82) (tgt := 9) (dec_at lsk_182 (k := 46) rfl) rfl ?_
        exact u_weak (sbK (sbK (sbK (sbK (sbD (sbK sb0)))))) h
    · have h := ifF e9 h
      refine u_ld (v := .ref 231) (pc := 40) (dec_at lsk_182 (k := 23) rfl) rfl ?_
      refine u_gS (o := 1) (p := 232) (pc := 41) (dec_at lsk_182 (k := 24) rfl) f_10_12 sx_231 rfl rfl ?_
      refine u_gS (o := 12) (p := 244) (pc := 44) (dec_at lsk_182 (k := 25) rfl) f_10_49 sx_232 rfl rfl ?_
      refine u_ld (v := .ref 231) (pc := 47) (dec_at lsk_182 (k := 26) rfl) rfl ?_
      refine u_ld (v := iV l1) (pc := 48) (dec_at lsk_182 (k := 27) rfl) rfl ?_
      refine u_ld (v := iV l3) (pc := 49) (dec_at lsk_182 (k := 28) rfl) rfl ?_
      refine u_cvI (As := [iV l1, iV l3]) (rb := 231) (st2 := [.ref 244]) (pc := 50) (dec_at lsk_182 (k := 29) rfl) m_10_157 (Or.inl rfl) rfl (Nat.le_of_ble_eq_true rfl) sx_231 me_172 rfl h (fun r15 u14 h => ?_)
      have g16 := h.1
      have h := h.2
      have g17 := h.1
      have h := h.2
      refine u_lald (pc := 53) (dec_at lsk_182 (k := 30) rfl) sx_244 g16 g17 ?_
      refine u_sto (lv' := [.ref 231, iV l1, iV l2, iV l3, lV (u14.1 244 r15), .retAddr 0]) (pc := 54) (dec_at lsk_182 (k := 31) rfl) rfl ?_
      refine u_ld (v := .ref 231) (pc := 56) (dec_at lsk_182 (k := 32) rfl) rfl ?_
      refine u_gL (z := 9) (pc := 57) (dec_at lsk_182 (k := 33) rfl) f_10_164 sx_231 rfl rfl ?_
      refine u_ld (v := lV (u14.1 244 r15)) (pc := 60) (dec_at lsk_182 (k := 34) rfl) rfl ?_
      refine u_st (st' := [.int (lg_cmp (Int64.ofInt (u14.1 231 9)) (Int64.ofInt (u14.1 244 r15)))]) (pc := 62) (dec_at lsk_182 (k := 35) rfl) rfl ?_
      have g18 := h.1
      have h := h.2
      have g19 := h.1
      have h := h.2
      refine u_ifF (pc := 63) (tgt := 68) (dec_at lsk_182 (k := 36) rfl) rfl (cl_ge g18 g19) (fun e20 => ?_) (fun e20 => ?_)
      · have h := ifT e20 h
        refine u_ld (v := iV l3) (pc := 66) (dec_at lsk_182 (k := 37) rfl) rfl ?_
        exact u_rI (pc := 67) (dec_at lsk_182 (k := 38) rfl) rfl h
      · have h := ifF e20 h
        refine u_ld (v := .ref 231) (pc := 68) (dec_at lsk_182 (k := 39) rfl) rfl ?_
        refine u_ld (v := .ref 231) (pc := 69) (dec_at lsk_182 (k := 40) rfl) rfl ?_
        refine u_gL (z := 9) (pc := 70) (dec_at lsk_182 (k := 41) rfl) f_10_164 sx_231 rfl rfl ?_
        refine u_ld (v := lV (u14.1 244 r15)) (pc := 73) (dec_at lsk_182 (k := 42) rfl) rfl ?_
        refine u_lsub (pc := 75) (dec_at lsk_182 (k := 43) rfl) ?_
        refine u_pL (z := 9) (pc := 76) (dec_at lsk_182 (k := 44) rfl) f_10_164 sx_231 rfl rfl rfl rfl (fun u21 e22 => ?_)
        have h := h u21 e22
        refine u_inc (lv' := [.ref 231, iV l1, iV l2, iV (l3 + 1), lV (u14.1 244 r15), .retAddr 0]) (pc := 79) (dec_at lsk_182 (k := 45) rfl) rfl (by decide) rfl ?_
        refine u_goto (pc := 82) (tgt := 9) (dec_at lsk_182 (k := 46) rfl) rfl ?_
        exact u_weak (sbK (sbK (sbK (sbK (sbD (sbK sb0)))))) h
  · have h := ifF e5 h
    refine u_ld (v := iV 0) (pc := 85) (dec_at lsk_182 (k := 47) rfl) rfl ?_
    exact u_rI (pc := 86) (dec_at lsk_182 (k := 48) rfl) rfl h
/-- method 184 -/
def K_184 (d pc : Nat) (lv : ev_L) (st : List Value) (u : uS) (Q : Int → uS → Prop) : Prop := okU d 10 5 false (some .long) prog_12_method_18_code (qL Q) pc lv st u
theorem e_184 {d : Nat} {Q : Int → uS → Prop} {u : uS} {l1 l3 : Int} (h : (rL l1) ∧ (if l1 < 0 then (Q (-2) u) else ((0 ≤ u.1 232 3) ∧ ((u.1 232 3 < 16000) ∧ ((rL (u.1 268 (u.1 232 3))) ∧ (if l1 < u.1 268 (u.1 232 3) then (cI (d + 1) 185 [.ref 231, lV l1] u (fun r8 u7 => (rI l3) ∧ (if l3 = 0 then ((rI r8) ∧ ((rI (u7.1 232 2)) ∧ (((u7.1 232 2) ≠ 0) ∧ ((rI (r8.tdiv (u7.1 232 2))) ∧ ((rI ((r8.tdiv (u7.1 232 2)).tdiv (u7.1 232 2))) ∧ (Q ((r8.tdiv (u7.1 232 2)).tdiv (u7.1 232 2)) u7)))))) else (if l3 = 1 then ((0 ≤ r8) ∧ ((r8 < 16000) ∧ ((rI (u7.1 266 r8)) ∧ (Q (u7.1 266 r8) u7)))) else (if l3 = 2 then ((rI r8) ∧ ((rI (u7.1 232 2)) ∧ (((u7.1 232 2) ≠ 0) ∧ ((rI (r8.tdiv (u7.1 232 2))) ∧ ((rI ((r8.tdiv (u7.1 232 2)).tmod (u7.1 232 2))) ∧ (Q ((r8.tdiv (u7.1 232 2)).tmod (u7.1 232 2)) u7)))))) else (if l3 = 3 then ((rI r8) ∧ ((rI (u7.1 232 2)) ∧ (((u7.1 232 2) ≠ 0) ∧ ((rI (r8.tmod (u7.1 232 2))) ∧ (Q (r8.tmod (u7.1 232 2)) u7))))) else (if l3 = 4 then ((0 ≤ r8) ∧ ((r8 < 16000) ∧ (Q (u7.1 268 r8) u7))) else (if l3 = 5 then ((0 ≤ r8) ∧ ((r8 < 16000) ∧ (Q (u7.1 244 r8) u7))) else (if l3 = 6 then (Q (u7.1 231 10) u7) else (Q (-1) u7)))))))))) else (Q (-2) u))))))) : cL (d + 2) 184 [.ref 231, lV l1, iV l3] u Q := by
  refine u_of me_184 (Nat.le_of_ble_eq_true rfl) ?_
  refine u_ld (v := lV l1) (pc := 0) (dec_at lsk_184 (k := 0) rfl) rfl ?_
  refine u_cl (x := 0) (pc := 1) (dec_at lsk_184 (k := 1) rfl) rfl (by decide) ?_
  refine u_st (st' := [.int (lg_cmp (Int64.ofInt l1) (Int64.ofInt 0))]) (pc := 2) (dec_at lsk_184 (k := 2) rfl) rfl ?_
  have g1 := h.1
  have h := h.2
  refine u_ifT (pc := 3) (tgt := 15) (dec_at lsk_184 (k := 3) rfl) rfl (cl_lt g1 (by decide)) (fun e2 => ?_) (fun e2 => ?_)
  · have h := ifT e2 h
    refine u_ldc2 (x := (-2)) (pc := 15) (dec_at lsk_184 (k := 9) rfl) con_10_174 (by decide) ?_
    exact u_rL (pc := 18) (dec_at lsk_184 (k := 10) rfl) rfl h
  · have h := ifF e2 h
    refine u_ld (v := lV l1) (pc := 6) (dec_at lsk_184 (k := 4) rfl) rfl ?_
    refine u_ld (v := .ref 231) (pc := 7) (dec_at lsk_184 (k := 5) rfl) rfl ?_
    refine u_cvL (As := []) (rb := 231) (st2 := [lV l1]) (pc := 8) (dec_at lsk_184 (k := 6) rfl) m_10_171 (Or.inl rfl) rfl (Nat.le_of_ble_eq_true rfl) sx_231 me_178 rfl ?_ (fun _ _ h_ => h_)
    refine u_of me_178 (Nat.le_of_ble_eq_true rfl) ?_
    refine u_ld (v := .ref 231) (pc := 0) (dec_at lsk_178 (k := 0) rfl) rfl ?_
    refine u_gS (o := 37) (p := 268) (pc := 1) (dec_at lsk_178 (k := 1) rfl) f_10_39 sx_231 rfl rfl ?_
    refine u_ld (v := .ref 231) (pc := 4) (dec_at lsk_178 (k := 2) rfl) rfl ?_
    refine u_gS (o := 1) (p := 232) (pc := 5) (dec_at lsk_178 (k := 3) rfl) f_10_12 sx_231 rfl rfl ?_
    refine u_gI (z := 3) (pc := 8) (dec_at lsk_178 (k := 4) rfl) f_10_52 sx_232 rfl rfl ?_
    have g3 := h.1
    have h := h.2
    have g4 := h.1
    have h := h.2
    refine u_lald (pc := 11) (dec_at lsk_178 (k := 5) rfl) sx_268 g3 g4 ?_
    refine u_rL (pc := 12) (dec_at lsk_178 (k := 6) rfl) rfl ?_
    refine u_st (st' := [.int (lg_cmp (Int64.ofInt l1) (Int64.ofInt (u.1 268 (u.1 232 3))))]) (pc := 11) (dec_at lsk_184 (k := 7) rfl) rfl ?_
    have g5 := h.1
    have h := h.2
    refine u_ifT (pc := 12) (tgt := 19) (dec_at lsk_184 (k := 8) rfl) rfl (cl_lt g1 g5) (fun e6 => ?_) (fun e6 => ?_)
    · have h := ifT e6 h
      refine u_ld (v := .ref 231) (pc := 19) (dec_at lsk_184 (k := 11) rfl) rfl ?_
      refine u_ld (v := lV l1) (pc := 20) (dec_at lsk_184 (k := 12) rfl) rfl ?_
      refine u_cvI (As := [lV l1]) (rb := 231) (st2 := []) (pc := 21) (dec_at lsk_184 (k := 13) rfl) m_10_176 (Or.inl rfl) rfl (Nat.le_of_ble_eq_true rfl) sx_231 me_185 rfl h (fun r8 u7 h => ?_)
      refine u_sto (lv' := [.ref 231, lV l1, .retAddr 0, iV l3, iV r8]) (pc := 24) (dec_at lsk_184 (k := 14) rfl) rfl ?_
      refine u_ld (v := iV l3) (pc := 26) (dec_at lsk_184 (k := 15) rfl) rfl ?_
      have g9 := h.1
      have h := h.2
      by_cases e10 : l3 = 0
      · have h := ifT e10 h
        refine u_ts (pc := 27) (tgt := 68) (o := 41) (dec_at lsk_184 (k := 16) rfl) g9 (by omega) (by rw [e10]; rfl) rfl ?_
        refine u_ld (v := .ref 231) (pc := 68) (dec_at lsk_184 (k := 17) rfl) rfl ?_
        refine u_gS (o := 1) (p := 232) (pc := 69) (dec_at lsk_184 (k := 18) rfl) f_10_12 sx_231 rfl rfl ?_
        refine u_ld (v := iV r8) (pc := 72) (dec_at lsk_184 (k := 19) rfl) rfl ?_
        refine u_cvI (As := [iV r8]) (rb := 232) (st2 := []) (pc := 74) (dec_at lsk_184 (k := 20) rfl) m_10_88 (Or.inl rfl) rfl (Nat.le_of_ble_eq_true rfl) sx_232 me_149 rfl ?_ (fun _ _ h_ => h_)
        refine u_of me_149 (Nat.le_of_ble_eq_true rfl) ?_
        refine u_ld (v := iV r8) (pc := 0) (dec_at lsk_149 (k := 0) rfl) rfl ?_
        refine u_ld (v := .ref 232) (pc := 1) (dec_at lsk_149 (k := 1) rfl) rfl ?_
        refine u_gI (z := 2) (pc := 2) (dec_at lsk_149 (k := 2) rfl) f_11_25 sx_232 rfl rfl ?_
        have g11 := h.1
        have h := h.2
        have g12 := h.1
        have h := h.2
        have g13 := h.1
        have h := h.2
        refine u_idiv (pc := 5) (dec_at lsk_149 (k := 3) rfl) g11 g12 g13 ?_
        refine u_ld (v := .ref 232) (pc := 6) (dec_at lsk_149 (k := 4) rfl) rfl ?_
        refine u_gI (z := 2) (pc := 7) (dec_at lsk_149 (k := 5) rfl) f_11_25 sx_232 rfl rfl ?_
        have g14 := h.1
        have h := h.2
        refine u_idiv (pc := 10) (dec_at lsk_149 (k := 6) rfl) g14 g12 g13 ?_
        refine u_rI (pc := 11) (dec_at lsk_149 (k := 7) rfl) rfl ?_
        have g15 := h.1
        have h := h.2
        refine u_i2l (pc := 77) (dec_at lsk_184 (k := 21) rfl) g15 ?_
        exact u_rL (pc := 78) (dec_at lsk_184 (k := 22) rfl) rfl h
      · have h := ifF e10 h
        by_cases e16 : l3 = 1
        · have h := ifT e16 h
          refine u_ts (pc := 27) (tgt := 79) (o := 52) (dec_at lsk_184 (k := 16) rfl) g9 (by omega) (by rw [e16]; rfl) rfl ?_
          refine u_ld (v := .ref 231) (pc := 79) (dec_at lsk_184 (k := 23) rfl) rfl ?_
          refine u_gS (o := 35) (p := 266) (pc := 80) (dec_at lsk_184 (k := 24) rfl) f_10_32 sx_231 rfl rfl ?_
          refine u_ld (v := iV r8) (pc := 83) (dec_at lsk_184 (k := 25) rfl) rfl ?_
          have g17 := h.1
          have h := h.2
          have g18 := h.1
          have h := h.2
          refine u_iald (pc := 85) (dec_at lsk_184 (k := 26) rfl) sx_266 g17 g18 ?_
          have g19 := h.1
          have h := h.2
          refine u_i2l (pc := 86) (dec_at lsk_184 (k := 27) rfl) g19 ?_
          exact u_rL (pc := 87) (dec_at lsk_184 (k := 28) rfl) rfl h
        · have h := ifF e16 h
          by_cases e20 : l3 = 2
          · have h := ifT e20 h
            refine u_ts (pc := 27) (tgt := 88) (o := 61) (dec_at lsk_184 (k := 16) rfl) g9 (by omega) (by rw [e20]; rfl) rfl ?_
            refine u_ld (v := .ref 231) (pc := 88) (dec_at lsk_184 (k := 29) rfl) rfl ?_
            refine u_gS (o := 1) (p := 232) (pc := 89) (dec_at lsk_184 (k := 30) rfl) f_10_12 sx_231 rfl rfl ?_
            refine u_ld (v := iV r8) (pc := 92) (dec_at lsk_184 (k := 31) rfl) rfl ?_
            refine u_cvI (As := [iV r8]) (rb := 232) (st2 := []) (pc := 94) (dec_at lsk_184 (k := 32) rfl) m_10_104 (Or.inl rfl) rfl (Nat.le_of_ble_eq_true rfl) sx_232 me_150 rfl ?_ (fun _ _ h_ => h_)
            refine u_of me_150 (Nat.le_of_ble_eq_true rfl) ?_
            refine u_ld (v := iV r8) (pc := 0) (dec_at lsk_150 (k := 0) rfl) rfl ?_
            refine u_ld (v := .ref 232) (pc := 1) (dec_at lsk_150 (k := 1) rfl) rfl ?_
            refine u_gI (z := 2) (pc := 2) (dec_at lsk_150 (k := 2) rfl) f_11_25 sx_232 rfl rfl ?_
            have g21 := h.1
            have h := h.2
            have g22 := h.1
            have h := h.2
            have g23 := h.1
            have h := h.2
            refine u_idiv (pc := 5) (dec_at lsk_150 (k := 3) rfl) g21 g22 g23 ?_
            refine u_ld (v := .ref 232) (pc := 6) (dec_at lsk_150 (k := 4) rfl) rfl ?_
            refine u_gI (z := 2) (pc := 7) (dec_at lsk_150 (k := 5) rfl) f_11_25 sx_232 rfl rfl ?_
            have g24 := h.1
            have h := h.2
            refine u_irem (pc := 10) (dec_at lsk_150 (k := 6) rfl) g24 g22 g23 ?_
            refine u_rI (pc := 11) (dec_at lsk_150 (k := 7) rfl) rfl ?_
            have g25 := h.1
            have h := h.2
            refine u_i2l (pc := 97) (dec_at lsk_184 (k := 33) rfl) g25 ?_
            exact u_rL (pc := 98) (dec_at lsk_184 (k := 34) rfl) rfl h
          · have h := ifF e20 h
            by_cases e26 : l3 = 3
            · have h := ifT e26 h
              refine u_ts (pc := 27) (tgt := 99) (o := 72) (dec_at lsk_184 (k := 16) rfl) g9 (by omega) (by rw [e26]; rfl) rfl ?_
              refine u_ld (v := .ref 231) (pc := 99) (dec_at lsk_184 (k := 35) rfl) rfl ?_
              refine u_gS (o := 1) (p := 232) (pc := 100) (dec_at lsk_184 (k := 36) rfl) f_10_12 sx_231 rfl rfl ?_
              refine u_ld (v := iV r8) (pc := 103) (dec_at lsk_184 (k := 37) rfl) rfl ?_
              refine u_cvI (As := [iV r8]) (rb := 232) (st2 := []) (pc := 105) (dec_at lsk_184 (k := 38) rfl) m_10_59 (Or.inl rfl) rfl (Nat.le_of_ble_eq_true rfl) sx_232 me_151 rfl ?_ (fun _ _ h_ => h_)
              refine u_of me_151 (Nat.le_of_ble_eq_true rfl) ?_
              refine u_ld (v := iV r8) (pc := 0) (dec_at lsk_151 (k := 0) rfl) rfl ?_
              refine u_ld (v := .ref 232) (pc := 1) (dec_at lsk_151 (k := 1) rfl) rfl ?_
              refine u_gI (z := 2) (pc := 2) (dec_at lsk_151 (k := 2) rfl) f_11_25 sx_232 rfl rfl ?_
              have g27 := h.1
              have h := h.2
              have g28 := h.1
              have h := h.2
              have g29 := h.1
              have h := h.2
              refine u_irem (pc := 5) (dec_at lsk_151 (k := 3) rfl) g27 g28 g29 ?_
              refine u_rI (pc := 6) (dec_at lsk_151 (k := 4) rfl) rfl ?_
              have g30 := h.1
              have h := h.2
              refine u_i2l (pc := 108) (dec_at lsk_184 (k := 39) rfl) g30 ?_
              exact u_rL (pc := 109) (dec_at lsk_184 (k := 40) rfl) rfl h
            · have h := ifF e26 h
              by_cases e31 : l3 = 4
              · have h := ifT e31 h
                refine u_ts (pc := 27) (tgt := 110) (o := 83) (dec_at lsk_184 (k := 16) rfl) g9 (by omega) (by rw [e31]; rfl) rfl ?_
                refine u_ld (v := .ref 231) (pc := 110) (dec_at lsk_184 (k := 41) rfl) rfl ?_
                refine u_gS (o := 37) (p := 268) (pc := 111) (dec_at lsk_184 (k := 42) rfl) f_10_39 sx_231 rfl rfl ?_
                refine u_ld (v := iV r8) (pc := 114) (dec_at lsk_184 (k := 43) rfl) rfl ?_
                have g32 := h.1
                have h := h.2
                have g33 := h.1
                have h := h.2
                refine u_lald (pc := 116) (dec_at lsk_184 (k := 44) rfl) sx_268 g32 g33 ?_
                exact u_rL (pc := 117) (dec_at lsk_184 (k := 45) rfl) rfl h
              · have h := ifF e31 h
                by_cases e34 : l3 = 5
                · have h := ifT e34 h
                  refine u_ts (pc := 27) (tgt := 118) (o := 91) (dec_at lsk_184 (k := 16) rfl) g9 (by omega) (by rw [e34]; rfl) rfl ?_
                  refine u_ld (v := .ref 231) (pc := 118) (dec_at lsk_184 (k := 46) rfl) rfl ?_
                  refine u_gS (o := 1) (p := 232) (pc := 119) (dec_at lsk_184 (k := 47) rfl) f_10_12 sx_231 rfl rfl ?_
                  refine u_gS (o := 12) (p := 244) (pc := 122) (dec_at lsk_184 (k := 48) rfl) f_10_49 sx_232 rfl rfl ?_
                  refine u_ld (v := iV r8) (pc := 125) (dec_at lsk_184 (k := 49) rfl) rfl ?_
                  have g35 := h.1
                  have h := h.2
                  have g36 := h.1
                  have h := h.2
                  refine u_lald (pc := 127) (dec_at lsk_184 (k := 50) rfl) sx_244 g35 g36 ?_
                  exact u_rL (pc := 128) (dec_at lsk_184 (k := 51) rfl) rfl h
                · have h := ifF e34 h
                  by_cases e37 : l3 = 6
                  · have h := ifT e37 h
                    refine u_ts (pc := 27) (tgt := 129) (o := 102) (dec_at lsk_184 (k := 16) rfl) g9 (by omega) (by rw [e37]; rfl) rfl ?_
                    refine u_ld (v := .ref 231) (pc := 129) (dec_at lsk_184 (k := 52) rfl) rfl ?_
                    refine u_gL (z := 10) (pc := 130) (dec_at lsk_184 (k := 53) rfl) f_10_179 sx_231 rfl rfl ?_
                    exact u_rL (pc := 133) (dec_at lsk_184 (k := 54) rfl) rfl h
                  · have h := ifF e37 h
                    refine u_td (pc := 27) (tgt := 134) (dec_at lsk_184 (k := 16) rfl) g9 (by omega) rfl ?_
                    refine u_ldc2 (x := (-1)) (pc := 134) (dec_at lsk_184 (k := 55) rfl) con_10_182 (by decide) ?_
                    exact u_rL (pc := 137) (dec_at lsk_184 (k := 56) rfl) rfl h
    · have h := ifF e6 h
      refine u_ldc2 (x := (-2)) (pc := 15) (dec_at lsk_184 (k := 9) rfl) con_10_174 (by decide) ?_
      exact u_rL (pc := 18) (dec_at lsk_184 (k := 10) rfl) rfl h
/-- method 185 -/
def K_185 (d pc : Nat) (lv : ev_L) (st : List Value) (u : uS) (Q : Int → uS → Prop) : Prop := okU d 10 5 false (some .int) prog_12_method_19_code (qI Q) pc lv st u
theorem e_185 {d : Nat} {Q : Int → uS → Prop} {u : uS} {l1 : Int} (h : ∀ u1 : uS, u1 = wr u 231 9 l1 → (∀ u3 : uS, u3 = wr u1 231 10 0 → (K_185 d 21 [.ref 231, .retAddr 0, .retAddr 0, iV (u3.1 232 3), iV 0] [] u3 Q))) : cI (d + 1) 185 [.ref 231, lV l1] u Q := by
  refine u_of me_185 (Nat.le_of_ble_eq_true rfl) ?_
  refine u_ld (v := .ref 231) (pc := 0) (dec_at lsk_185 (k := 0) rfl) rfl ?_
  refine u_ld (v := lV l1) (pc := 1) (dec_at lsk_185 (k := 1) rfl) rfl ?_
  refine u_pL (z := 9) (pc := 2) (dec_at lsk_185 (k := 2) rfl) f_10_164 sx_231 rfl rfl rfl rfl (fun u1 e2 => ?_)
  have h := h u1 e2
  refine u_ld (v := .ref 231) (pc := 5) (dec_at lsk_185 (k := 3) rfl) rfl ?_
  refine u_cl (x := 0) (pc := 6) (dec_at lsk_185 (k := 4) rfl) rfl (by decide) ?_
  refine u_pL (z := 10) (pc := 7) (dec_at lsk_185 (k := 5) rfl) f_10_179 sx_231 rfl rfl rfl rfl (fun u3 e4 => ?_)
  have h := h u3 e4
  refine u_ld (v := .ref 231) (pc := 10) (dec_at lsk_185 (k := 6) rfl) rfl ?_
  refine u_gS (o := 1) (p := 232) (pc := 11) (dec_at lsk_185 (k := 7) rfl) f_10_12 sx_231 rfl rfl ?_
  refine u_gI (z := 3) (pc := 14) (dec_at lsk_185 (k := 8) rfl) f_10_52 sx_232 rfl rfl ?_
  refine u_sto (lv' := [.ref 231, lV l1, .retAddr 0, iV (u3.1 232 3), .retAddr 0]) (pc := 17) (dec_at lsk_185 (k := 9) rfl) rfl ?_
  refine u_ld (v := iV 0) (pc := 18) (dec_at lsk_185 (k := 10) rfl) rfl ?_
  refine u_sto (lv' := [.ref 231, lV l1, .retAddr 0, iV (u3.1 232 3), iV 0]) (pc := 19) (dec_at lsk_185 (k := 11) rfl) rfl ?_
  exact u_weak (sbK (sbD (sbK (sbK (sbK sb0))))) h
theorem k_185_21 {d : Nat} {Q : Int → uS → Prop} {u : uS} {l3 l4 : Int} (h : (rI l4) ∧ ((rI (u.1 232 7)) ∧ (if l4 < u.1 232 7 then ((rL (u.1 231 9)) ∧ (if 0 < u.1 231 9 then (∀ u6 : uS, u6 = wr u 231 9 ((u.1 231 9) - 1) → (cI d 186 [.ref 231, iV l3] u6 (fun r9 u8 => K_185 d 21 [.ref 231, .retAddr 0, .retAddr 0, iV r9, iV (l4 + 1)] [] u8 Q))) else (Q l3 u))) else (Q l3 u)))) : K_185 d 21 [.ref 231, .retAddr 0, .retAddr 0, iV l3, iV l4] [] u Q := by
  unfold K_185
  refine u_ld (v := iV l4) (pc := 21) (dec_at lsk_185 (k := 12) rfl) rfl ?_
  refine u_ld (v := .ref 231) (pc := 23) (dec_at lsk_185 (k := 13) rfl) rfl ?_
  refine u_gS (o := 1) (p := 232) (pc := 24) (dec_at lsk_185 (k := 14) rfl) f_10_12 sx_231 rfl rfl ?_
  refine u_gI (z := 7) (pc := 27) (dec_at lsk_185 (k := 15) rfl) f_10_67 sx_232 rfl rfl ?_
  have g1 := h.1
  have h := h.2
  have g2 := h.1
  have h := h.2
  refine u_icF (pc := 30) (tgt := 64) (dec_at lsk_185 (k := 16) rfl) rfl (ci_ge g1 g2) (fun e3 => ?_) (fun e3 => ?_)
  · have h := ifT e3 h
    refine u_ld (v := .ref 231) (pc := 33) (dec_at lsk_185 (k := 17) rfl) rfl ?_
    refine u_gL (z := 9) (pc := 34) (dec_at lsk_185 (k := 18) rfl) f_10_164 sx_231 rfl rfl ?_
    refine u_cl (x := 0) (pc := 37) (dec_at lsk_185 (k := 19) rfl) rfl (by decide) ?_
    refine u_st (st' := [.int (lg_cmp (Int64.ofInt (u.1 231 9)) (Int64.ofInt 0))]) (pc := 38) (dec_at lsk_185 (k := 20) rfl) rfl ?_
    have g4 := h.1
    have h := h.2
    refine u_ifF (pc := 39) (tgt := 64) (dec_at lsk_185 (k := 21) rfl) rfl (cl_le g4 (by decide)) (fun e5 => ?_) (fun e5 => ?_)
    · have h := ifT e5 h
      refine u_ld (v := .ref 231) (pc := 42) (dec_at lsk_185 (k := 22) rfl) rfl ?_
      refine u_ld (v := .ref 231) (pc := 43) (dec_at lsk_185 (k := 23) rfl) rfl ?_
      refine u_gL (z := 9) (pc := 44) (dec_at lsk_185 (k := 24) rfl) f_10_164 sx_231 rfl rfl ?_
      refine u_cl (x := 1) (pc := 47) (dec_at lsk_185 (k := 25) rfl) rfl (by decide) ?_
      refine u_lsub (pc := 48) (dec_at lsk_185 (k := 26) rfl) ?_
      refine u_pL (z := 9) (pc := 49) (dec_at lsk_185 (k := 27) rfl) f_10_164 sx_231 rfl rfl rfl rfl (fun u6 e7 => ?_)
      have h := h u6 e7
      refine u_ld (v := .ref 231) (pc := 52) (dec_at lsk_185 (k := 28) rfl) rfl ?_
      refine u_ld (v := iV l3) (pc := 53) (dec_at lsk_185 (k := 29) rfl) rfl ?_
      refine u_cvI (As := [iV l3]) (rb := 231) (st2 := []) (pc := 54) (dec_at lsk_185 (k := 30) rfl) m_10_184 (Or.inl rfl) rfl (Nat.le_of_ble_eq_true rfl) sx_231 me_186 rfl h (fun r9 u8 h => ?_)
      refine u_sto (lv' := [.ref 231, .retAddr 0, .retAddr 0, iV r9, iV l4]) (pc := 57) (dec_at lsk_185 (k := 31) rfl) rfl ?_
      refine u_inc (lv' := [.ref 231, .retAddr 0, .retAddr 0, iV r9, iV (l4 + 1)]) (pc := 58) (dec_at lsk_185 (k := 32) rfl) rfl (by decide) rfl ?_
      refine u_goto (pc := 61) (tgt := 21) (dec_at lsk_185 (k := 33) rfl) rfl ?_
      exact h
    · have h := ifF e5 h
      refine u_ld (v := iV l3) (pc := 64) (dec_at lsk_185 (k := 34) rfl) rfl ?_
      exact u_rI (pc := 65) (dec_at lsk_185 (k := 35) rfl) rfl h
  · have h := ifF e3 h
    refine u_ld (v := iV l3) (pc := 64) (dec_at lsk_185 (k := 34) rfl) rfl ?_
    exact u_rI (pc := 65) (dec_at lsk_185 (k := 35) rfl) rfl h
/-- method 186 -/
def K_186 (d pc : Nat) (lv : ev_L) (st : List Value) (u : uS) (Q : Int → uS → Prop) : Prop := okU d 10 5 false (some .int) prog_12_method_20_code (qI Q) pc lv st u
theorem e_186 {d : Nat} {Q : Int → uS → Prop} {u : uS} {l1 : Int} (h : (0 ≤ l1) ∧ ((l1 < 16000) ∧ (K_186 (d + 1) 9 [.ref 231, iV l1, iV (u.1 266 l1), iV 0, .retAddr 0] [] u Q))) : cI (d + 2) 186 [.ref 231, iV l1] u Q := by
  refine u_of me_186 (Nat.le_of_ble_eq_true rfl) ?_
  refine u_ld (v := .ref 231) (pc := 0) (dec_at lsk_186 (k := 0) rfl) rfl ?_
  refine u_gS (o := 35) (p := 266) (pc := 1) (dec_at lsk_186 (k := 1) rfl) f_10_32 sx_231 rfl rfl ?_
  refine u_ld (v := iV l1) (pc := 4) (dec_at lsk_186 (k := 2) rfl) rfl ?_
  have g1 := h.1
  have h := h.2
  have g2 := h.1
  have h := h.2
  refine u_iald (pc := 5) (dec_at lsk_186 (k := 3) rfl) sx_266 g1 g2 ?_
  refine u_sto (lv' := [.ref 231, iV l1, iV (u.1 266 l1), .retAddr 0, .retAddr 0]) (pc := 6) (dec_at lsk_186 (k := 4) rfl) rfl ?_
  refine u_ld (v := iV 0) (pc := 7) (dec_at lsk_186 (k := 5) rfl) rfl ?_
  refine u_sto (lv' := [.ref 231, iV l1, iV (u.1 266 l1), iV 0, .retAddr 0]) (pc := 8) (dec_at lsk_186 (k := 6) rfl) rfl ?_
  exact h
theorem k_186_9 {d : Nat} {Q : Int → uS → Prop} {u : uS} {l1 l2 l3 : Int} (h : (0 ≤ l2) ∧ ((l2 < 30) ∧ ((rI l3) ∧ ((rI (u.1 258 l2)) ∧ (if l3 < u.1 258 l2 then ((0 ≤ (l2 * 6) + l3) ∧ (((l2 * 6) + l3 < 180) ∧ ((rI (u.1 259 ((l2 * 6) + l3))) ∧ (if u.1 259 ((l2 * 6) + l3) < 100 then ((cn 9000000000000000000 (u.1 231 10)) ∧ ((cn 9000000000000000000 1) ∧ (∀ u12 : uS, u12 = wr u 231 10 (pl 9000000000000000000 (u.1 231 10) 1) → (K_186 (d + 1) 9 [.ref 231, iV l1, iV l2, iV (l3 + 1), .retAddr 0] [] u12 Q)))) else (cI (d + 1) 172 [.ref 231, iV l1, iV l3] u (fun r15 u14 => (0 ≤ r15) ∧ ((r15 < 16000) ∧ ((rL (u14.1 231 9)) ∧ ((rL (u14.1 268 r15)) ∧ (if u14.1 231 9 < u14.1 268 r15 then (Q r15 u14) else (∀ u21 : uS, u21 = wr u14 231 9 ((u14.1 231 9) - (u14.1 268 r15)) → ((cn 9000000000000000000 (u21.1 231 10)) ∧ ((cn 9000000000000000000 (u21.1 244 r15)) ∧ (∀ u25 : uS, u25 = wr u21 231 10 (pl 9000000000000000000 (u21.1 231 10) (u21.1 244 r15)) → (K_186 (d + 1) 9 [.ref 231, iV l1, iV l2, iV (l3 + 1), .retAddr 0] [] u25 Q))))))))))))))) else (Q l1 u)))))) : K_186 (d + 1) 9 [.ref 231, iV l1, iV l2, iV l3, .retAddr 0] [] u Q := by
  unfold K_186
  refine u_ld (v := iV l3) (pc := 9) (dec_at lsk_186 (k := 7) rfl) rfl ?_
  refine u_ld (v := .ref 231) (pc := 10) (dec_at lsk_186 (k := 8) rfl) rfl ?_
  refine u_gS (o := 24) (p := 255) (pc := 11) (dec_at lsk_186 (k := 9) rfl) f_10_21 sx_231 rfl rfl ?_
  refine u_gS (o := 3) (p := 258) (pc := 14) (dec_at lsk_186 (k := 10) rfl) f_10_107 sx_255 rfl rfl ?_
  refine u_ld (v := iV l2) (pc := 17) (dec_at lsk_186 (k := 11) rfl) rfl ?_
  have g1 := h.1
  have h := h.2
  have g2 := h.1
  have h := h.2
  refine u_iald (pc := 18) (dec_at lsk_186 (k := 12) rfl) sx_258 g1 g2 ?_
  have g3 := h.1
  have h := h.2
  have g4 := h.1
  have h := h.2
  refine u_icF (pc := 19) (tgt := 120) (dec_at lsk_186 (k := 13) rfl) rfl (ci_ge g3 g4) (fun e5 => ?_) (fun e5 => ?_)
  · have h := ifT e5 h
    refine u_ld (v := .ref 231) (pc := 22) (dec_at lsk_186 (k := 14) rfl) rfl ?_
    refine u_gS (o := 24) (p := 255) (pc := 23) (dec_at lsk_186 (k := 15) rfl) f_10_21 sx_231 rfl rfl ?_
    refine u_ld (v := iV l2) (pc := 26) (dec_at lsk_186 (k := 16) rfl) rfl ?_
    refine u_ld (v := iV l3) (pc := 27) (dec_at lsk_186 (k := 17) rfl) rfl ?_
    refine u_cvI (As := [iV l2, iV l3]) (rb := 255) (st2 := []) (pc := 28) (dec_at lsk_186 (k := 18) rfl) m_10_128 (Or.inl rfl) rfl (Nat.le_of_ble_eq_true rfl) sx_255 me_42 rfl ?_ (fun _ _ h_ => h_)
    refine u_of me_42 (Nat.le_of_ble_eq_true rfl) ?_
    refine u_ld (v := .ref 255) (pc := 0) (dec_at lsk_42 (k := 0) rfl) rfl ?_
    refine u_gS (o := 4) (p := 259) (pc := 1) (dec_at lsk_42 (k := 1) rfl) f_2_21 sx_255 rfl rfl ?_
    refine u_ld (v := iV l2) (pc := 4) (dec_at lsk_42 (k := 2) rfl) rfl ?_
    refine u_c (x := 6) (pc := 5) (dec_at lsk_42 (k := 3) rfl) rfl (by decide) ?_
    refine u_imul (pc := 7) (dec_at lsk_42 (k := 4) rfl) ?_
    refine u_ld (v := iV l3) (pc := 8) (dec_at lsk_42 (k := 5) rfl) rfl ?_
    refine u_iadd (pc := 9) (dec_at lsk_42 (k := 6) rfl) ?_
    have g6 := h.1
    have h := h.2
    have g7 := h.1
    have h := h.2
    refine u_iald (pc := 10) (dec_at lsk_42 (k := 7) rfl) sx_259 g6 g7 ?_
    refine u_rI (pc := 11) (dec_at lsk_42 (k := 8) rfl) rfl ?_
    refine u_c (x := 100) (pc := 31) (dec_at lsk_186 (k := 19) rfl) rfl (by decide) ?_
    have g8 := h.1
    have h := h.2
    refine u_icF (pc := 33) (tgt := 51) (dec_at lsk_186 (k := 20) rfl) rfl (ci_ge g8 (by decide)) (fun e9 => ?_) (fun e9 => ?_)
    · have h := ifT e9 h
      refine u_ld (v := .ref 231) (pc := 36) (dec_at lsk_186 (k := 21) rfl) rfl ?_
      refine u_ld (v := .ref 231) (pc := 37) (dec_at lsk_186 (k := 22) rfl) rfl ?_
      refine u_gL (z := 10) (pc := 38) (dec_at lsk_186 (k := 23) rfl) f_10_179 sx_231 rfl rfl ?_
      refine u_cl (x := 1) (pc := 41) (dec_at lsk_186 (k := 24) rfl) rfl (by decide) ?_
      have g10 := h.1
      have h := h.2
      have g11 := h.1
      have h := h.2
      refine u_csL (As := [lV (u.1 231 10), lV 1]) (st2 := [.ref 231]) (pc := 42) (dec_at lsk_186 (k := 25) rfl) m_10_134 (Or.inr rfl) rfl (Nat.le_of_ble_eq_true rfl) (p_51 g10 g11) (fun r_ u_ h_ => ?_)
      rw [h_.1, h_.2]
      refine u_pL (z := 10) (pc := 45) (dec_at lsk_186 (k := 26) rfl) f_10_179 sx_231 rfl rfl rfl rfl (fun u12 e13 => ?_)
      have h := h u12 e13
      refine u_goto (pc := 48) (tgt := 114) (dec_at lsk_186 (k := 27) rfl) rfl ?_
      refine u_inc (lv' := [.ref 231, iV l1, iV l2, iV (l3 + 1), .retAddr 0]) (pc := 114) (dec_at lsk_186 (k := 62) rfl) rfl (by decide) rfl ?_
      refine u_goto (pc := 117) (tgt := 9) (dec_at lsk_186 (k := 63) rfl) rfl ?_
      exact h
    · have h := ifF e9 h
      refine u_ld (v := .ref 231) (pc := 51) (dec_at lsk_186 (k := 28) rfl) rfl ?_
      refine u_ld (v := iV l1) (pc := 52) (dec_at lsk_186 (k := 29) rfl) rfl ?_
      refine u_ld (v := iV l3) (pc := 53) (dec_at lsk_186 (k := 30) rfl) rfl ?_
      refine u_cvI (As := [iV l1, iV l3]) (rb := 231) (st2 := []) (pc := 54) (dec_at lsk_186 (k := 31) rfl) m_10_157 (Or.inl rfl) rfl (Nat.le_of_ble_eq_true rfl) sx_231 me_172 rfl h (fun r15 u14 h => ?_)
      refine u_sto (lv' := [.ref 231, iV l1, iV l2, iV l3, iV r15]) (pc := 57) (dec_at lsk_186 (k := 32) rfl) rfl ?_
      refine u_ld (v := .ref 231) (pc := 59) (dec_at lsk_186 (k := 33) rfl) rfl ?_
      refine u_gL (z := 9) (pc := 60) (dec_at lsk_186 (k := 34) rfl) f_10_164 sx_231 rfl rfl ?_
      refine u_ld (v := .ref 231) (pc := 63) (dec_at lsk_186 (k := 35) rfl) rfl ?_
      refine u_gS (o := 37) (p := 268) (pc := 64) (dec_at lsk_186 (k := 36) rfl) f_10_39 sx_231 rfl rfl ?_
      refine u_ld (v := iV r15) (pc := 67) (dec_at lsk_186 (k := 37) rfl) rfl ?_
      have g16 := h.1
      have h := h.2
      have g17 := h.1
      have h := h.2
      refine u_lald (pc := 69) (dec_at lsk_186 (k := 38) rfl) sx_268 g16 g17 ?_
      refine u_st (st' := [.int (lg_cmp (Int64.ofInt (u14.1 231 9)) (Int64.ofInt (u14.1 268 r15)))]) (pc := 70) (dec_at lsk_186 (k := 39) rfl) rfl ?_
      have g18 := h.1
      have h := h.2
      have g19 := h.1
      have h := h.2
      refine u_ifF (pc := 71) (tgt := 77) (dec_at lsk_186 (k := 40) rfl) rfl (cl_ge g18 g19) (fun e20 => ?_) (fun e20 => ?_)
      · have h := ifT e20 h
        refine u_ld (v := iV r15) (pc := 74) (dec_at lsk_186 (k := 41) rfl) rfl ?_
        exact u_rI (pc := 76) (dec_at lsk_186 (k := 42) rfl) rfl h
      · have h := ifF e20 h
        refine u_ld (v := .ref 231) (pc := 77) (dec_at lsk_186 (k := 43) rfl) rfl ?_
        refine u_ld (v := .ref 231) (pc := 78) (dec_at lsk_186 (k := 44) rfl) rfl ?_
        refine u_gL (z := 9) (pc := 79) (dec_at lsk_186 (k := 45) rfl) f_10_164 sx_231 rfl rfl ?_
        refine u_ld (v := .ref 231) (pc := 82) (dec_at lsk_186 (k := 46) rfl) rfl ?_
        refine u_gS (o := 37) (p := 268) (pc := 83) (dec_at lsk_186 (k := 47) rfl) f_10_39 sx_231 rfl rfl ?_
        refine u_ld (v := iV r15) (pc := 86) (dec_at lsk_186 (k := 48) rfl) rfl ?_
        refine u_lald (pc := 88) (dec_at lsk_186 (k := 49) rfl) sx_268 g16 g17 ?_
        refine u_lsub (pc := 89) (dec_at lsk_186 (k := 50) rfl) ?_
        refine u_pL (z := 9) (pc := 90) (dec_at lsk_186 (k := 51) rfl) f_10_164 sx_231 rfl rfl rfl rfl (fun u21 e22 => ?_)
        have h := h u21 e22
        refine u_ld (v := .ref 231) (pc := 93) (dec_at lsk_186 (k := 52) rfl) rfl ?_
        refine u_ld (v := .ref 231) (pc := 94) (dec_at lsk_186 (k := 53) rfl) rfl ?_
        refine u_gL (z := 10) (pc := 95) (dec_at lsk_186 (k := 54) rfl) f_10_179 sx_231 rfl rfl ?_
        refine u_ld (v := .ref 231) (pc := 98) (dec_at lsk_186 (k := 55) rfl) rfl ?_
        refine u_gS (o := 1) (p := 232) (pc := 99) (dec_at lsk_186 (k := 56) rfl) f_10_12 sx_231 rfl rfl ?_
        refine u_gS (o := 12) (p := 244) (pc := 102) (dec_at lsk_186 (k := 57) rfl) f_10_49 sx_232 rfl rfl ?_
        refine u_ld (v := iV r15) (pc := 105) (dec_at lsk_186 (k := 58) rfl) rfl ?_
        refine u_lald (pc := 107) (dec_at lsk_186 (k := 59) rfl) sx_244 g16 g17 ?_
        have g23 := h.1
        have h := h.2
        have g24 := h.1
        have h := h.2
        refine u_csL (As := [lV (u21.1 231 10), lV (u21.1 244 r15)]) (st2 := [.ref 231]) (pc := 108) (dec_at lsk_186 (k := 60) rfl) m_10_134 (Or.inr rfl) rfl (Nat.le_of_ble_eq_true rfl) (p_51 g23 g24) (fun r_ u_ h_ => ?_)
        rw [h_.1, h_.2]
        refine u_pL (z := 10) (pc := 111) (dec_at lsk_186 (k := 61) rfl) f_10_179 sx_231 rfl rfl rfl rfl (fun u25 e26 => ?_)
        have h := h u25 e26
        refine u_inc (lv' := [.ref 231, iV l1, iV l2, iV (l3 + 1), iV r15]) (pc := 114) (dec_at lsk_186 (k := 62) rfl) rfl (by decide) rfl ?_
        refine u_goto (pc := 117) (tgt := 9) (dec_at lsk_186 (k := 63) rfl) rfl ?_
        exact u_weak (sbK (sbK (sbK (sbK (sbD sb0))))) h
  · have h := ifF e5 h
    refine u_ld (v := iV l1) (pc := 120) (dec_at lsk_186 (k := 64) rfl) rfl ?_
    exact u_rI (pc := 121) (dec_at lsk_186 (k := 65) rfl) rfl h
