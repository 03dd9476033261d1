/-! Conditions (wip/tools/gen_k.py) -/
/-- method 143 -/
def K_143 (d pc : Nat) (lv : ev_L) (st : List Value) (u : uS) (Q : Int → uS → Prop) : Prop := okU d 11 5 false (some .boolean) prog_9_method_2_code (qI Q) pc lv st u
theorem e_143 {d : Nat} {Q : Int → uS → Prop} {u : uS} {l1 l2 : Nat} (hOl1 : isO l1 2) (hOl2 : isO l2 5) (h : cV (d + 2) 144 [.ref 232, .ref l1, .ref l2] u (fun u1 => K_143 (d + 2) 8 [.ref 232, .retAddr 0, .retAddr 0, iV 0, .retAddr 0] [] u1 Q)) : cI (d + 3) 143 [.ref 232, .ref l1, .ref l2] u Q := by
  refine u_of me_143 (Nat.le_of_ble_eq_true rfl) ?_
  refine u_ld (v := .ref 232) (pc := 0) (dec_at lsk_143 (k := 0) rfl) rfl ?_
  refine u_ld (v := .ref l1) (pc := 1) (dec_at lsk_143 (k := 1) rfl) rfl ?_
  refine u_ld (v := .ref l2) (pc := 2) (dec_at lsk_143 (k := 2) rfl) rfl ?_
  refine u_cvV (As := [.ref l1, .ref l2]) (rb := 232) (st2 := []) (pc := 3) (dec_at lsk_143 (k := 3) rfl) m_11_65 (Or.inl rfl) rfl (Nat.le_of_ble_eq_true rfl) sx_232 me_144 rfl h (fun u1 h => ?_)
  refine u_ld (v := iV 0) (pc := 6) (dec_at lsk_143 (k := 4) rfl) rfl ?_
  refine u_sto (lv' := [.ref 232, .ref l1, .ref l2, iV 0, .retAddr 0]) (pc := 7) (dec_at lsk_143 (k := 5) rfl) rfl ?_
  exact u_weak (sbK (sbD (sbD (sbK (sbK sb0))))) h
theorem k_143_8 {d : Nat} {Q : Int → uS → Prop} {u : uS} {l3 : Int} (h : (isO (u.2 232 0) 2) ∧ ((rI l3) ∧ ((rI (u.1 (u.2 232 0) 1)) ∧ (if l3 < u.1 (u.2 232 0) 1 then (K_143 (d + 2) 22 [.ref 232, .retAddr 0, .retAddr 0, iV l3, iV 0] [] u Q) else (K_143 (d + 2) 57 [.ref 232, .retAddr 0, .retAddr 0, iV 0, .retAddr 0] [] u Q))))) : K_143 (d + 2) 8 [.ref 232, .retAddr 0, .retAddr 0, iV l3, .retAddr 0] [] u Q := by
  unfold K_143
  refine u_ld (v := iV l3) (pc := 8) (dec_at lsk_143 (k := 6) rfl) rfl ?_
  refine u_ld (v := .ref 232) (pc := 9) (dec_at lsk_143 (k := 7) rfl) rfl ?_
  refine u_gR (z := 0) (pc := 10) (dec_at lsk_143 (k := 8) rfl) f_11_12 sx_232 rfl rfl ?_
  have g1 := h.1
  have h := h.2
  refine u_gI (z := 1) (pc := 13) (dec_at lsk_143 (k := 9) rfl) f_11_69 g1 rfl rfl ?_
  have g2 := h.1
  have h := h.2
  have g3 := h.1
  have h := h.2
  refine u_icF (pc := 16) (tgt := 55) (dec_at lsk_143 (k := 10) rfl) rfl (ci_ge g2 g3) (fun e4 => ?_) (fun e4 => ?_)
  · have h := ifT e4 h
    refine u_ld (v := iV 0) (pc := 19) (dec_at lsk_143 (k := 11) rfl) rfl ?_
    refine u_sto (lv' := [.ref 232, .retAddr 0, .retAddr 0, iV l3, iV 0]) (pc := 20) (dec_at lsk_143 (k := 12) rfl) rfl ?_
    exact h
  · have h := ifF e4 h
    refine u_ld (v := iV 0) (pc := 55) (dec_at lsk_143 (k := 29) rfl) rfl ?_
    refine u_sto (lv' := [.ref 232, .retAddr 0, .retAddr 0, iV 0, .retAddr 0]) (pc := 56) (dec_at lsk_143 (k := 30) rfl) rfl ?_
    exact h
theorem k_143_22 {d : Nat} {Q : Int → uS → Prop} {u : uS} {l3 l4 : Int} (h : (rI l4) ∧ ((rI (u.1 232 2)) ∧ (if l4 < u.1 232 2 then (cV (d + 2) 146 [.ref 232, iV l3, iV 0, iV l4, iV l4, lV 0, iV 0] u (fun u4 => K_143 (d + 2) 22 [.ref 232, .retAddr 0, .retAddr 0, iV l3, iV (l4 + 1)] [] u4 Q)) else (K_143 (d + 2) 8 [.ref 232, .retAddr 0, .retAddr 0, iV (l3 + 1), .retAddr 0] [] u Q)))) : K_143 (d + 2) 22 [.ref 232, .retAddr 0, .retAddr 0, iV l3, iV l4] [] u Q := by
  unfold K_143
  refine u_ld (v := iV l4) (pc := 22) (dec_at lsk_143 (k := 13) rfl) rfl ?_
  refine u_ld (v := .ref 232) (pc := 24) (dec_at lsk_143 (k := 14) rfl) rfl ?_
  refine u_gI (z := 2) (pc := 25) (dec_at lsk_143 (k := 15) rfl) f_11_25 sx_232 rfl rfl ?_
  have g1 := h.1
  have h := h.2
  have g2 := h.1
  have h := h.2
  refine u_icF (pc := 28) (tgt := 49) (dec_at lsk_143 (k := 16) rfl) rfl (ci_ge g1 g2) (fun e3 => ?_) (fun e3 => ?_)
  · have h := ifT e3 h
    refine u_ld (v := .ref 232) (pc := 31) (dec_at lsk_143 (k := 17) rfl) rfl ?_
    refine u_ld (v := iV l3) (pc := 32) (dec_at lsk_143 (k := 18) rfl) rfl ?_
    refine u_ld (v := iV 0) (pc := 33) (dec_at lsk_143 (k := 19) rfl) rfl ?_
    refine u_ld (v := iV l4) (pc := 34) (dec_at lsk_143 (k := 20) rfl) rfl ?_
    refine u_ld (v := iV l4) (pc := 36) (dec_at lsk_143 (k := 21) rfl) rfl ?_
    refine u_cl (x := 0) (pc := 38) (dec_at lsk_143 (k := 22) rfl) rfl (by decide) ?_
    refine u_ld (v := iV 0) (pc := 39) (dec_at lsk_143 (k := 23) rfl) rfl ?_
    refine u_cvV (As := [iV l3, iV 0, iV l4, iV l4, lV 0, iV 0]) (rb := 232) (st2 := []) (pc := 40) (dec_at lsk_143 (k := 24) rfl) m_11_71 (Or.inl rfl) rfl (Nat.le_of_ble_eq_true rfl) sx_232 me_146 rfl h (fun u4 h => ?_)
    refine u_inc (lv' := [.ref 232, .retAddr 0, .retAddr 0, iV l3, iV (l4 + 1)]) (pc := 43) (dec_at lsk_143 (k := 25) rfl) rfl (by decide) rfl ?_
    refine u_goto (pc := 46) (tgt := 22) (dec_at lsk_143 (k := 26) rfl) rfl ?_
    exact h
  · have h := ifF e3 h
    refine u_inc (lv' := [.ref 232, .retAddr 0, .retAddr 0, iV (l3 + 1), iV l4]) (pc := 49) (dec_at lsk_143 (k := 27) rfl) rfl (by decide) rfl ?_
    refine u_goto (pc := 52) (tgt := 8) (dec_at lsk_143 (k := 28) rfl) rfl ?_
    exact u_weak (sbK (sbK (sbK (sbK (sbD sb0))))) h
theorem k_143_57 {d : Nat} {Q : Int → uS → Prop} {u : uS} {l3 : Int} (h : (rI l3) ∧ (if l3 < 16000 then ((rI (u.1 232 11)) ∧ (if 0 < u.1 232 11 then ((rI (u.1 232 3)) ∧ (if u.1 232 3 = (-1) then (cI (d + 2) 157 [.ref 232] u (fun r8 u7 => (0 ≤ u7.1 232 7) ∧ ((u7.1 232 7 < 16000) ∧ (∀ u11 : uS, u11 = wr u7 246 (u7.1 232 7) r8 → (∀ u13 : uS, u13 = wr u11 232 7 ((u11.1 232 7) + 1) → ((rI r8) ∧ ((rI (u13.1 232 2)) ∧ (((u13.1 232 2) ≠ 0) ∧ ((rI (r8.tdiv (u13.1 232 2))) ∧ ((0 ≤ (((r8.tdiv (u13.1 232 2)).tdiv (u13.1 232 2)) * 40) + ((r8.tdiv (u13.1 232 2)).tmod (u13.1 232 2))) ∧ (((((r8.tdiv (u13.1 232 2)).tdiv (u13.1 232 2)) * 40) + ((r8.tdiv (u13.1 232 2)).tmod (u13.1 232 2)) < 400) ∧ (∀ u21 : uS, u21 = wr u13 247 ((((r8.tdiv (u13.1 232 2)).tdiv (u13.1 232 2)) * 40) + ((r8.tdiv (u13.1 232 2)).tmod (u13.1 232 2))) (lor (u13.1 247 ((((r8.tdiv (u13.1 232 2)).tdiv (u13.1 232 2)) * 40) + ((r8.tdiv (u13.1 232 2)).tmod (u13.1 232 2)))) (lshl 1 (r8.tmod (u13.1 232 2)))) → ((rI (u21.1 232 2)) ∧ (if r8 < u21.1 232 2 then ((isO (u21.2 232 1) 5) ∧ (if land (lushr (u21.1 (u21.2 232 1) 1) r8) 1 = 0 then (∀ u27 : uS, u27 = wr u21 232 3 r8 → (K_143 (d + 2) 57 [.ref 232, .retAddr 0, .retAddr 0, iV (l3 + 1), .retAddr 0] [] u27 Q)) else (cV (d + 2) 160 [.ref 232, iV r8] u21 (fun u29 => K_143 (d + 2) 57 [.ref 232, .retAddr 0, .retAddr 0, iV (l3 + 1), .retAddr 0] [] u29 Q)))) else (cV (d + 2) 160 [.ref 232, iV r8] u21 (fun u30 => K_143 (d + 2) 57 [.ref 232, .retAddr 0, .retAddr 0, iV (l3 + 1), .retAddr 0] [] u30 Q)))))))))))))))) else (K_143 (d + 2) 121 [.ref 232, .retAddr 0, .retAddr 0, .retAddr 0, .retAddr 0] [] u Q))) else (K_143 (d + 2) 121 [.ref 232, .retAddr 0, .retAddr 0, .retAddr 0, .retAddr 0] [] u Q))) else (K_143 (d + 2) 121 [.ref 232, .retAddr 0, .retAddr 0, .retAddr 0, .retAddr 0] [] u Q))) : K_143 (d + 2) 57 [.ref 232, .retAddr 0, .retAddr 0, iV l3, .retAddr 0] [] u Q := by
  unfold K_143
  refine u_ld (v := iV l3) (pc := 57) (dec_at lsk_143 (k := 31) rfl) rfl ?_
  refine u_c (x := 16000) (pc := 58) (dec_at lsk_143 (k := 32) rfl) rfl (by decide) ?_
  have g1 := h.1
  have h := h.2
  refine u_icF (pc := 61) (tgt := 121) (dec_at lsk_143 (k := 33) rfl) rfl (ci_ge g1 (by decide)) (fun e2 => ?_) (fun e2 => ?_)
  · have h := ifT e2 h
    refine u_ld (v := .ref 232) (pc := 64) (dec_at lsk_143 (k := 34) rfl) rfl ?_
    refine u_gI (z := 11) (pc := 65) (dec_at lsk_143 (k := 35) rfl) f_11_75 sx_232 rfl rfl ?_
    have g3 := h.1
    have h := h.2
    refine u_ifF (pc := 68) (tgt := 121) (dec_at lsk_143 (k := 36) rfl) rfl (c0_le g3) (fun e4 => ?_) (fun e4 => ?_)
    · have h := ifT e4 h
      refine u_ld (v := .ref 232) (pc := 71) (dec_at lsk_143 (k := 37) rfl) rfl ?_
      refine u_gI (z := 3) (pc := 72) (dec_at lsk_143 (k := 38) rfl) f_11_78 sx_232 rfl rfl ?_
      refine u_ld (v := iV (-1)) (pc := 75) (dec_at lsk_143 (k := 39) rfl) rfl ?_
      have g5 := h.1
      have h := h.2
      refine u_icF (pc := 76) (tgt := 121) (dec_at lsk_143 (k := 40) rfl) rfl (ci_ne g5 (by decide)) (fun e6 => ?_) (fun e6 => ?_)
      · have h := ifT e6 h
        refine u_ld (v := .ref 232) (pc := 79) (dec_at lsk_143 (k := 41) rfl) rfl ?_
        refine u_cvI (As := []) (rb := 232) (st2 := []) (pc := 80) (dec_at lsk_143 (k := 42) rfl) m_11_81 (Or.inl rfl) rfl (Nat.le_of_ble_eq_true rfl) sx_232 me_157 rfl h (fun r8 u7 h => ?_)
        refine u_sto (lv' := [.ref 232, .retAddr 0, .retAddr 0, iV l3, iV r8]) (pc := 83) (dec_at lsk_143 (k := 43) rfl) rfl ?_
        refine u_ld (v := .ref 232) (pc := 85) (dec_at lsk_143 (k := 44) rfl) rfl ?_
        refine u_ld (v := iV r8) (pc := 86) (dec_at lsk_143 (k := 45) rfl) rfl ?_
        refine u_cvV (As := [iV r8]) (rb := 232) (st2 := []) (pc := 88) (dec_at lsk_143 (k := 46) rfl) m_11_85 (Or.inl rfl) rfl (Nat.le_of_ble_eq_true rfl) sx_232 me_158 rfl ?_ (fun _ h_ => h_)
        refine u_of me_158 (Nat.le_of_ble_eq_true rfl) ?_
        refine u_ld (v := .ref 232) (pc := 0) (dec_at lsk_158 (k := 0) rfl) rfl ?_
        refine u_gS (o := 14) (p := 246) (pc := 1) (dec_at lsk_158 (k := 1) rfl) f_11_37 sx_232 rfl rfl ?_
        refine u_ld (v := .ref 232) (pc := 4) (dec_at lsk_158 (k := 2) rfl) rfl ?_
        refine u_gI (z := 7) (pc := 5) (dec_at lsk_158 (k := 3) rfl) f_11_106 sx_232 rfl rfl ?_
        refine u_ld (v := iV r8) (pc := 8) (dec_at lsk_158 (k := 4) rfl) rfl ?_
        have g9 := h.1
        have h := h.2
        have g10 := h.1
        have h := h.2
        refine u_iast (pc := 9) (dec_at lsk_158 (k := 5) rfl) sx_246 g9 g10 (fun u11 e12 => ?_)
        have h := h u11 e12
        refine u_ld (v := .ref 232) (pc := 10) (dec_at lsk_158 (k := 6) rfl) rfl ?_
        refine u_ld (v := .ref 232) (pc := 11) (dec_at lsk_158 (k := 7) rfl) rfl ?_
        refine u_gI (z := 7) (pc := 12) (dec_at lsk_158 (k := 8) rfl) f_11_106 sx_232 rfl rfl ?_
        refine u_ld (v := iV 1) (pc := 15) (dec_at lsk_158 (k := 9) rfl) rfl ?_
        refine u_iadd (pc := 16) (dec_at lsk_158 (k := 10) rfl) ?_
        refine u_pI (z := 7) (pc := 17) (dec_at lsk_158 (k := 11) rfl) f_11_106 sx_232 rfl rfl rfl rfl (fun u13 e14 => ?_)
        have h := h u13 e14
        refine u_ld (v := .ref 232) (pc := 20) (dec_at lsk_158 (k := 12) rfl) rfl ?_
        refine u_gS (o := 15) (p := 247) (pc := 21) (dec_at lsk_158 (k := 13) rfl) f_11_40 sx_232 rfl rfl ?_
        refine u_ld (v := .ref 232) (pc := 24) (dec_at lsk_158 (k := 14) rfl) rfl ?_
        refine u_ld (v := iV r8) (pc := 25) (dec_at lsk_158 (k := 15) rfl) rfl ?_
        refine u_cvI (As := [iV r8]) (rb := 232) (st2 := [.ref 247]) (pc := 26) (dec_at lsk_158 (k := 16) rfl) m_11_167 (Or.inl rfl) rfl (Nat.le_of_ble_eq_true rfl) sx_232 me_149 rfl ?_ (fun _ _ h_ => h_)
        refine u_of me_149 (Nat.le_of_ble_eq_true rfl) ?_
        refine u_ld (v := iV r8) (pc := 0) (dec_at lsk_149 (k := 0) rfl) rfl ?_
        refine u_ld (v := .ref 232) (pc := 1) (dec_at lsk_149 (k := 1) rfl) rfl ?_
        refine u_gI (z := 2) (pc := 2) (dec_at lsk_149 (k := 2) rfl) f_11_25 sx_232 rfl rfl ?_
        have g15 := h.1
        have h := h.2
        have g16 := h.1
        have h := h.2
        have g17 := h.1
        have h := h.2
        refine u_idiv (pc := 5) (dec_at lsk_149 (k := 3) rfl) g15 g16 g17 ?_
        refine u_ld (v := .ref 232) (pc := 6) (dec_at lsk_149 (k := 4) rfl) rfl ?_
        refine u_gI (z := 2) (pc := 7) (dec_at lsk_149 (k := 5) rfl) f_11_25 sx_232 rfl rfl ?_
        have g18 := h.1
        have h := h.2
        refine u_idiv (pc := 10) (dec_at lsk_149 (k := 6) rfl) g18 g16 g17 ?_
        refine u_rI (pc := 11) (dec_at lsk_149 (k := 7) rfl) rfl ?_
        refine u_ld (v := .ref 232) (pc := 29) (dec_at lsk_158 (k := 17) rfl) rfl ?_
        refine u_ld (v := iV r8) (pc := 30) (dec_at lsk_158 (k := 18) rfl) rfl ?_
        refine u_cvI (As := [iV r8]) (rb := 232) (st2 := [iV ((r8.tdiv (u13.1 232 2)).tdiv (u13.1 232 2)), .ref 247]) (pc := 31) (dec_at lsk_158 (k := 19) rfl) m_11_171 (Or.inl rfl) rfl (Nat.le_of_ble_eq_true rfl) sx_232 me_150 rfl ?_ (fun _ _ h_ => h_)
        refine u_of me_150 (Nat.le_of_ble_eq_true rfl) ?_
        refine u_ld (v := iV r8) (pc := 0) (dec_at lsk_150 (k := 0) rfl) rfl ?_
        refine u_ld (v := .ref 232) (pc := 1) (dec_at lsk_150 (k := 1) rfl) rfl ?_
        refine u_gI (z := 2) (pc := 2) (dec_at lsk_150 (k := 2) rfl) f_11_25 sx_232 rfl rfl ?_
        refine u_idiv (pc := 5) (dec_at lsk_150 (k := 3) rfl) g15 g16 g17 ?_
        refine u_ld (v := .ref 232) (pc := 6) (dec_at lsk_150 (k := 4) rfl) rfl ?_
        refine u_gI (z := 2) (pc := 7) (dec_at lsk_150 (k := 5) rfl) f_11_25 sx_232 rfl rfl ?_
        refine u_irem (pc := 10) (dec_at lsk_150 (k := 6) rfl) g18 g16 g17 ?_
        refine u_rI (pc := 11) (dec_at lsk_150 (k := 7) rfl) rfl ?_
        refine u_csI (As := [iV ((r8.tdiv (u13.1 232 2)).tdiv (u13.1 232 2)), iV ((r8.tdiv (u13.1 232 2)).tmod (u13.1 232 2))]) (st2 := [.ref 247]) (pc := 34) (dec_at lsk_158 (k := 20) rfl) m_11_158 (Or.inr rfl) rfl (Nat.le_of_ble_eq_true rfl) ?_ (fun _ _ h_ => h_)
        refine u_of me_141 (Nat.le_of_ble_eq_true rfl) ?_
        refine u_ld (v := iV ((r8.tdiv (u13.1 232 2)).tdiv (u13.1 232 2))) (pc := 0) (dec_at lsk_141 (k := 0) rfl) rfl ?_
        refine u_c (x := 40) (pc := 1) (dec_at lsk_141 (k := 1) rfl) rfl (by decide) ?_
        refine u_imul (pc := 3) (dec_at lsk_141 (k := 2) rfl) ?_
        refine u_ld (v := iV ((r8.tdiv (u13.1 232 2)).tmod (u13.1 232 2))) (pc := 4) (dec_at lsk_141 (k := 3) rfl) rfl ?_
        refine u_iadd (pc := 5) (dec_at lsk_141 (k := 4) rfl) ?_
        refine u_rI (pc := 6) (dec_at lsk_141 (k := 5) rfl) rfl ?_
        refine u_st (st' := [iV ((((r8.tdiv (u13.1 232 2)).tdiv (u13.1 232 2)) * 40) + ((r8.tdiv (u13.1 232 2)).tmod (u13.1 232 2))), .ref 247, iV ((((r8.tdiv (u13.1 232 2)).tdiv (u13.1 232 2)) * 40) + ((r8.tdiv (u13.1 232 2)).tmod (u13.1 232 2))), .ref 247]) (pc := 37) (dec_at lsk_158 (k := 21) rfl) rfl ?_
        have g19 := h.1
        have h := h.2
        have g20 := h.1
        have h := h.2
        refine u_lald (pc := 38) (dec_at lsk_158 (k := 22) rfl) sx_247 g19 g20 ?_
        refine u_cl (x := 1) (pc := 39) (dec_at lsk_158 (k := 23) rfl) rfl (by decide) ?_
        refine u_ld (v := .ref 232) (pc := 40) (dec_at lsk_158 (k := 24) rfl) rfl ?_
        refine u_ld (v := iV r8) (pc := 41) (dec_at lsk_158 (k := 25) rfl) rfl ?_
        refine u_cvI (As := [iV r8]) (rb := 232) (st2 := [lV 1, lV (u13.1 247 ((((r8.tdiv (u13.1 232 2)).tdiv (u13.1 232 2)) * 40) + ((r8.tdiv (u13.1 232 2)).tmod (u13.1 232 2)))), iV ((((r8.tdiv (u13.1 232 2)).tdiv (u13.1 232 2)) * 40) + ((r8.tdiv (u13.1 232 2)).tmod (u13.1 232 2))), .ref 247]) (pc := 42) (dec_at lsk_158 (k := 26) rfl) m_11_174 (Or.inl rfl) rfl (Nat.le_of_ble_eq_true rfl) sx_232 me_151 rfl ?_ (fun _ _ h_ => h_)
        refine u_of me_151 (Nat.le_of_ble_eq_true rfl) ?_
        refine u_ld (v := iV r8) (pc := 0) (dec_at lsk_151 (k := 0) rfl) rfl ?_
        refine u_ld (v := .ref 232) (pc := 1) (dec_at lsk_151 (k := 1) rfl) rfl ?_
        refine u_gI (z := 2) (pc := 2) (dec_at lsk_151 (k := 2) rfl) f_11_25 sx_232 rfl rfl ?_
        refine u_irem (pc := 5) (dec_at lsk_151 (k := 3) rfl) g15 g16 g17 ?_
        refine u_rI (pc := 6) (dec_at lsk_151 (k := 4) rfl) rfl ?_
        refine u_lshl (pc := 45) (dec_at lsk_158 (k := 27) rfl) ?_
        refine u_lor (pc := 46) (dec_at lsk_158 (k := 28) rfl) ?_
        refine u_last (pc := 47) (dec_at lsk_158 (k := 29) rfl) sx_247 g19 g20 (fun u21 e22 => ?_)
        have h := h u21 e22
        refine u_rV (pc := 48) (dec_at lsk_158 (k := 30) rfl) rfl ?_
        refine u_ld (v := .ref 232) (pc := 91) (dec_at lsk_143 (k := 47) rfl) rfl ?_
        refine u_ld (v := iV r8) (pc := 92) (dec_at lsk_143 (k := 48) rfl) rfl ?_
        refine u_cvI (As := [iV r8]) (rb := 232) (st2 := []) (pc := 94) (dec_at lsk_143 (k := 49) rfl) m_11_89 (Or.inl rfl) rfl (Nat.le_of_ble_eq_true rfl) sx_232 me_159 rfl ?_ (fun _ _ h_ => h_)
        refine u_of me_159 (Nat.le_of_ble_eq_true rfl) ?_
        refine u_ld (v := iV r8) (pc := 0) (dec_at lsk_159 (k := 0) rfl) rfl ?_
        refine u_ld (v := .ref 232) (pc := 1) (dec_at lsk_159 (k := 1) rfl) rfl ?_
        refine u_gI (z := 2) (pc := 2) (dec_at lsk_159 (k := 2) rfl) f_11_25 sx_232 rfl rfl ?_
        have g23 := h.1
        have h := h.2
        refine u_icF (pc := 5) (tgt := 23) (dec_at lsk_159 (k := 3) rfl) rfl (ci_ge g15 g23) (fun e24 => ?_) (fun e24 => ?_)
        · have h := ifT e24 h
          refine u_ld (v := .ref 232) (pc := 8) (dec_at lsk_159 (k := 4) rfl) rfl ?_
          refine u_gR (z := 1) (pc := 9) (dec_at lsk_159 (k := 5) rfl) f_11_21 sx_232 rfl rfl ?_
          refine u_ld (v := iV r8) (pc := 12) (dec_at lsk_159 (k := 6) rfl) rfl ?_
          have g25 := h.1
          have h := h.2
          refine u_cvI (As := [iV r8]) (rb := u21.2 232 1) (st2 := []) (pc := 13) (dec_at lsk_159 (k := 7) rfl) m_11_128 (Or.inl rfl) rfl (Nat.le_of_ble_eq_true rfl) g25 me_71 rfl ?_ (fun _ _ h_ => h_)
          refine u_of me_71 (Nat.le_of_ble_eq_true rfl) ?_
          refine u_ld (v := .ref (u21.2 232 1)) (pc := 0) (dec_at lsk_71 (k := 0) rfl) rfl ?_
          refine u_gL (z := 1) (pc := 1) (dec_at lsk_71 (k := 1) rfl) f_5_19 g25 rfl rfl ?_
          refine u_ld (v := iV r8) (pc := 4) (dec_at lsk_71 (k := 2) rfl) rfl ?_
          refine u_lushr (pc := 5) (dec_at lsk_71 (k := 3) rfl) ?_
          refine u_cl (x := 1) (pc := 6) (dec_at lsk_71 (k := 4) rfl) rfl (by decide) ?_
          refine u_land (pc := 7) (dec_at lsk_71 (k := 5) rfl) ?_
          refine u_cl (x := 0) (pc := 8) (dec_at lsk_71 (k := 6) rfl) rfl (by decide) ?_
          refine u_st (st' := [.int (lg_cmp (Int64.ofInt (land (lushr (u21.1 (u21.2 232 1) 1) r8) 1)) (Int64.ofInt 0))]) (pc := 9) (dec_at lsk_71 (k := 7) rfl) rfl ?_
          refine u_ifT (pc := 10) (tgt := 17) (dec_at lsk_71 (k := 8) rfl) rfl (cl_eq (rl_toInt _) (by decide)) (fun e26 => ?_) (fun e26 => ?_)
          · have h := ifT e26 h
            refine u_ld (v := iV 0) (pc := 17) (dec_at lsk_71 (k := 11) rfl) rfl ?_
            refine u_rZ (pc := 18) (dec_at lsk_71 (k := 12) rfl) rfl (by decide) ?_
            refine u_ifF (pc := 16) (tgt := 23) (dec_at lsk_159 (k := 8) rfl) rfl (c0_ne (by decide)) (fun _ => ?_) (fun e => absurd e (by decide))
            refine u_ld (v := iV 1) (pc := 19) (dec_at lsk_159 (k := 9) rfl) rfl ?_
            refine u_goto (pc := 20) (tgt := 24) (dec_at lsk_159 (k := 10) rfl) rfl ?_
            refine u_rZ (pc := 24) (dec_at lsk_159 (k := 12) rfl) rfl (by decide) ?_
            refine u_ifT (pc := 97) (tgt := 109) (dec_at lsk_143 (k := 50) rfl) rfl (c0_eq (by decide)) (fun e => absurd e (by decide)) (fun _ => ?_)
            refine u_ld (v := .ref 232) (pc := 100) (dec_at lsk_143 (k := 51) rfl) rfl ?_
            refine u_ld (v := iV r8) (pc := 101) (dec_at lsk_143 (k := 52) rfl) rfl ?_
            refine u_pI (z := 3) (pc := 103) (dec_at lsk_143 (k := 53) rfl) f_11_78 sx_232 rfl rfl rfl rfl (fun u27 e28 => ?_)
            have h := h u27 e28
            refine u_goto (pc := 106) (tgt := 115) (dec_at lsk_143 (k := 54) rfl) rfl ?_
            refine u_inc (lv' := [.ref 232, .retAddr 0, .retAddr 0, iV (l3 + 1), iV r8]) (pc := 115) (dec_at lsk_143 (k := 58) rfl) rfl (by decide) rfl ?_
            refine u_goto (pc := 118) (tgt := 57) (dec_at lsk_143 (k := 59) rfl) rfl ?_
            exact u_weak (sbK (sbK (sbK (sbK (sbD sb0))))) h
          · have h := ifF e26 h
            refine u_ld (v := iV 1) (pc := 13) (dec_at lsk_71 (k := 9) rfl) rfl ?_
            refine u_goto (pc := 14) (tgt := 18) (dec_at lsk_71 (k := 10) rfl) rfl ?_
            refine u_rZ (pc := 18) (dec_at lsk_71 (k := 12) rfl) rfl (by decide) ?_
            refine u_ifF (pc := 16) (tgt := 23) (dec_at lsk_159 (k := 8) rfl) rfl (c0_ne (by decide)) (fun e => absurd e (by decide)) (fun _ => ?_)
            refine u_ld (v := iV 0) (pc := 23) (dec_at lsk_159 (k := 11) rfl) rfl ?_
            refine u_rZ (pc := 24) (dec_at lsk_159 (k := 12) rfl) rfl (by decide) ?_
            refine u_ifT (pc := 97) (tgt := 109) (dec_at lsk_143 (k := 50) rfl) rfl (c0_eq (by decide)) (fun _ => ?_) (fun e => absurd e (by decide))
            refine u_ld (v := .ref 232) (pc := 109) (dec_at lsk_143 (k := 55) rfl) rfl ?_
            refine u_ld (v := iV r8) (pc := 110) (dec_at lsk_143 (k := 56) rfl) rfl ?_
            refine u_cvV (As := [iV r8]) (rb := 232) (st2 := []) (pc := 112) (dec_at lsk_143 (k := 57) rfl) m_11_93 (Or.inl rfl) rfl (Nat.le_of_ble_eq_true rfl) sx_232 me_160 rfl h (fun u29 h => ?_)
            refine u_inc (lv' := [.ref 232, .retAddr 0, .retAddr 0, iV (l3 + 1), iV r8]) (pc := 115) (dec_at lsk_143 (k := 58) rfl) rfl (by decide) rfl ?_
            refine u_goto (pc := 118) (tgt := 57) (dec_at lsk_143 (k := 59) rfl) rfl ?_
            exact u_weak (sbK (sbK (sbK (sbK (sbD sb0))))) h
        · have h := ifF e24 h
          refine u_ld (v := iV 0) (pc := 23) (dec_at lsk_159 (k := 11) rfl) rfl ?_
          refine u_rZ (pc := 24) (dec_at lsk_159 (k := 12) rfl) rfl (by decide) ?_
          refine u_ifT (pc := 97) (tgt := 109) (dec_at lsk_143 (k := 50) rfl) rfl (c0_eq (by decide)) (fun _ => ?_) (fun e => absurd e (by decide))
          refine u_ld (v := .ref 232) (pc := 109) (dec_at lsk_143 (k := 55) rfl) rfl ?_
          refine u_ld (v := iV r8) (pc := 110) (dec_at lsk_143 (k := 56) rfl) rfl ?_
          refine u_cvV (As := [iV r8]) (rb := 232) (st2 := []) (pc := 112) (dec_at lsk_143 (k := 57) rfl) m_11_93 (Or.inl rfl) rfl (Nat.le_of_ble_eq_true rfl) sx_232 me_160 rfl h (fun u30 h => ?_)
          refine u_inc (lv' := [.ref 232, .retAddr 0, .retAddr 0, iV (l3 + 1), iV r8]) (pc := 115) (dec_at lsk_143 (k := 58) rfl) rfl (by decide) rfl ?_
          refine u_goto (pc := 118) (tgt := 57) (dec_at lsk_143 (k := 59) rfl) rfl ?_
          exact u_weak (sbK (sbK (sbK (sbK (sbD sb0))))) h
      · have h := ifF e6 h
        exact u_weak (sbK (sbK (sbK (sbD (sbK sb0))))) h
    · have h := ifF e4 h
      exact u_weak (sbK (sbK (sbK (sbD (sbK sb0))))) h
  · have h := ifF e2 h
    exact u_weak (sbK (sbK (sbK (sbD (sbK sb0))))) h
theorem k_143_121 {d : Nat} {Q : Int → uS → Prop} {u : uS} (h : (rI (u.1 232 3)) ∧ (if u.1 232 3 = (-1) then (cV (d + 2) 162 [.ref 232] u (fun u3 => (rI (u3.1 232 3)) ∧ (if u3.1 232 3 = (-1) then (Q 0 u3) else (Q 1 u3)))) else (Q 1 u))) : K_143 (d + 2) 121 [.ref 232, .retAddr 0, .retAddr 0, .retAddr 0, .retAddr 0] [] u Q := by
  unfold K_143
  refine u_ld (v := .ref 232) (pc := 121) (dec_at lsk_143 (k := 60) rfl) rfl ?_
  refine u_gI (z := 3) (pc := 122) (dec_at lsk_143 (k := 61) rfl) f_11_78 sx_232 rfl rfl ?_
  refine u_ld (v := iV (-1)) (pc := 125) (dec_at lsk_143 (k := 62) rfl) rfl ?_
  have g1 := h.1
  have h := h.2
  refine u_icF (pc := 126) (tgt := 133) (dec_at lsk_143 (k := 63) rfl) rfl (ci_ne g1 (by decide)) (fun e2 => ?_) (fun e2 => ?_)
  · have h := ifT e2 h
    refine u_ld (v := .ref 232) (pc := 129) (dec_at lsk_143 (k := 64) rfl) rfl ?_
    refine u_cvV (As := []) (rb := 232) (st2 := []) (pc := 130) (dec_at lsk_143 (k := 65) rfl) m_11_96 (Or.inl rfl) rfl (Nat.le_of_ble_eq_true rfl) sx_232 me_162 rfl h (fun u3 h => ?_)
    refine u_ld (v := .ref 232) (pc := 133) (dec_at lsk_143 (k := 66) rfl) rfl ?_
    refine u_gI (z := 3) (pc := 134) (dec_at lsk_143 (k := 67) rfl) f_11_78 sx_232 rfl rfl ?_
    refine u_ld (v := iV (-1)) (pc := 137) (dec_at lsk_143 (k := 68) rfl) rfl ?_
    have g4 := h.1
    have h := h.2
    refine u_icT (pc := 138) (tgt := 145) (dec_at lsk_143 (k := 69) rfl) rfl (ci_eq g4 (by decide)) (fun e5 => ?_) (fun e5 => ?_)
    · have h := ifT e5 h
      refine u_ld (v := iV 0) (pc := 145) (dec_at lsk_143 (k := 72) rfl) rfl ?_
      exact u_rZ (pc := 146) (dec_at lsk_143 (k := 73) rfl) rfl (by decide) h
    · have h := ifF e5 h
      refine u_ld (v := iV 1) (pc := 141) (dec_at lsk_143 (k := 70) rfl) rfl ?_
      refine u_goto (pc := 142) (tgt := 146) (dec_at lsk_143 (k := 71) rfl) rfl ?_
      exact u_rZ (pc := 146) (dec_at lsk_143 (k := 73) rfl) rfl (by decide) h
  · have h := ifF e2 h
    refine u_ld (v := .ref 232) (pc := 133) (dec_at lsk_143 (k := 66) rfl) rfl ?_
    refine u_gI (z := 3) (pc := 134) (dec_at lsk_143 (k := 67) rfl) f_11_78 sx_232 rfl rfl ?_
    refine u_ld (v := iV (-1)) (pc := 137) (dec_at lsk_143 (k := 68) rfl) rfl ?_
    refine u_icT (pc := 138) (tgt := 145) (dec_at lsk_143 (k := 69) rfl) rfl (ci_eq g1 (by decide)) (fun e6 => absurd e6 e2) (fun _ => ?_)
    refine u_ld (v := iV 1) (pc := 141) (dec_at lsk_143 (k := 70) rfl) rfl ?_
    refine u_goto (pc := 142) (tgt := 146) (dec_at lsk_143 (k := 71) rfl) rfl ?_
    exact u_rZ (pc := 146) (dec_at lsk_143 (k := 73) rfl) rfl (by decide) h
/-- method 144 -/
def K_144 (d pc : Nat) (lv : ev_L) (st : List Value) (u : uS) (Q : uS → Prop) : Prop := okU d 11 6 false none prog_9_method_3_code (qV Q) pc lv st u
theorem e_144 {d : Nat} {Q : uS → Prop} {u : uS} {l1 l2 : Nat} (hOl1 : isO l1 2) (hOl2 : isO l2 5) (h : ∀ u1 : uS, u1 = wq u 232 0 l1 → (∀ u3 : uS, u3 = wq u1 232 1 l2 → ((isO (u3.2 232 1) 5) ∧ ((rI (u3.1 (u3.2 232 1) 0)) ∧ (∀ u7 : uS, u7 = wr u3 232 2 (max 1 (u3.1 (u3.2 232 1) 0)) → (∀ u9 : uS, u9 = wr u7 232 3 (-1) → (∀ u11 : uS, u11 = wr u9 232 7 0 → (∀ u13 : uS, u13 = wr u11 232 11 0 → (K_144 (d + 2) 56 [.ref 232, .retAddr 0, .retAddr 0, iV ((u13.1 232 2) * (u13.1 232 2)), iV 0, iV 0] [] u13 Q))))))))) : cV (d + 3) 144 [.ref 232, .ref l1, .ref l2] u Q := by
  refine u_of me_144 (Nat.le_of_ble_eq_true rfl) ?_
  refine u_ld (v := .ref 232) (pc := 0) (dec_at lsk_144 (k := 0) rfl) rfl ?_
  refine u_ld (v := .ref l1) (pc := 1) (dec_at lsk_144 (k := 1) rfl) rfl ?_
  refine u_pR (z := 0) (pc := 2) (dec_at lsk_144 (k := 2) rfl) f_11_12 sx_232 rfl rfl rfl rfl rfl (fun u1 e2 => ?_)
  have h := h u1 e2
  refine u_ld (v := .ref 232) (pc := 5) (dec_at lsk_144 (k := 3) rfl) rfl ?_
  refine u_ld (v := .ref l2) (pc := 6) (dec_at lsk_144 (k := 4) rfl) rfl ?_
  refine u_pR (z := 1) (pc := 7) (dec_at lsk_144 (k := 5) rfl) f_11_21 sx_232 rfl rfl rfl rfl rfl (fun u3 e4 => ?_)
  have h := h u3 e4
  refine u_ld (v := .ref 232) (pc := 10) (dec_at lsk_144 (k := 6) rfl) rfl ?_
  refine u_ld (v := iV 1) (pc := 11) (dec_at lsk_144 (k := 7) rfl) rfl ?_
  refine u_ld (v := .ref 232) (pc := 12) (dec_at lsk_144 (k := 8) rfl) rfl ?_
  refine u_gR (z := 1) (pc := 13) (dec_at lsk_144 (k := 9) rfl) f_11_21 sx_232 rfl rfl ?_
  have g5 := h.1
  have h := h.2
  refine u_gI (z := 0) (pc := 16) (dec_at lsk_144 (k := 10) rfl) f_11_99 g5 rfl rfl ?_
  have g6 := h.1
  have h := h.2
  refine u_max (pc := 19) (dec_at lsk_144 (k := 11) rfl) m_11_100 (by decide) g6 (Nat.le_of_ble_eq_true rfl) ?_
  refine u_pI (z := 2) (pc := 22) (dec_at lsk_144 (k := 12) rfl) f_11_25 sx_232 rfl rfl rfl rfl (fun u7 e8 => ?_)
  have h := h u7 e8
  refine u_ld (v := .ref 232) (pc := 25) (dec_at lsk_144 (k := 13) rfl) rfl ?_
  refine u_ld (v := iV (-1)) (pc := 26) (dec_at lsk_144 (k := 14) rfl) rfl ?_
  refine u_pI (z := 3) (pc := 27) (dec_at lsk_144 (k := 15) rfl) f_11_78 sx_232 rfl rfl rfl rfl (fun u9 e10 => ?_)
  have h := h u9 e10
  refine u_ld (v := .ref 232) (pc := 30) (dec_at lsk_144 (k := 16) rfl) rfl ?_
  refine u_ld (v := iV 0) (pc := 31) (dec_at lsk_144 (k := 17) rfl) rfl ?_
  refine u_pI (z := 7) (pc := 32) (dec_at lsk_144 (k := 18) rfl) f_11_106 sx_232 rfl rfl rfl rfl (fun u11 e12 => ?_)
  have h := h u11 e12
  refine u_ld (v := .ref 232) (pc := 35) (dec_at lsk_144 (k := 19) rfl) rfl ?_
  refine u_ld (v := iV 0) (pc := 36) (dec_at lsk_144 (k := 20) rfl) rfl ?_
  refine u_pI (z := 11) (pc := 37) (dec_at lsk_144 (k := 21) rfl) f_11_75 sx_232 rfl rfl rfl rfl (fun u13 e14 => ?_)
  have h := h u13 e14
  refine u_ld (v := .ref 232) (pc := 40) (dec_at lsk_144 (k := 22) rfl) rfl ?_
  refine u_gI (z := 2) (pc := 41) (dec_at lsk_144 (k := 23) rfl) f_11_25 sx_232 rfl rfl ?_
  refine u_ld (v := .ref 232) (pc := 44) (dec_at lsk_144 (k := 24) rfl) rfl ?_
  refine u_gI (z := 2) (pc := 45) (dec_at lsk_144 (k := 25) rfl) f_11_25 sx_232 rfl rfl ?_
  refine u_imul (pc := 48) (dec_at lsk_144 (k := 26) rfl) ?_
  refine u_sto (lv' := [.ref 232, .ref l1, .ref l2, iV ((u13.1 232 2) * (u13.1 232 2)), .retAddr 0, .retAddr 0]) (pc := 49) (dec_at lsk_144 (k := 27) rfl) rfl ?_
  refine u_ld (v := iV 0) (pc := 50) (dec_at lsk_144 (k := 28) rfl) rfl ?_
  refine u_sto (lv' := [.ref 232, .ref l1, .ref l2, iV ((u13.1 232 2) * (u13.1 232 2)), iV 0, .retAddr 0]) (pc := 51) (dec_at lsk_144 (k := 29) rfl) rfl ?_
  refine u_ld (v := iV 0) (pc := 53) (dec_at lsk_144 (k := 30) rfl) rfl ?_
  refine u_sto (lv' := [.ref 232, .ref l1, .ref l2, iV ((u13.1 232 2) * (u13.1 232 2)), iV 0, iV 0]) (pc := 54) (dec_at lsk_144 (k := 31) rfl) rfl ?_
  exact u_weak (sbK (sbD (sbD (sbK (sbK (sbK sb0)))))) h
theorem k_144_56 {d : Nat} {Q : uS → Prop} {u : uS} {l3 l4 l5 : Int} (h : (isO (u.2 232 0) 2) ∧ ((rI l5) ∧ ((rI (u.1 (u.2 232 0) 1)) ∧ (if l5 < u.1 (u.2 232 0) 1 then ((0 ≤ l5) ∧ ((l5 < 30) ∧ (∀ u7 : uS, u7 = wr u 252 l5 l4 → ((isO (u7.2 232 0) 2) ∧ ((rI ((u7.1 ((u7.2 232 0) + 3) l5) - 1)) ∧ (K_144 (d + 2) 56 [.ref 232, .retAddr 0, .retAddr 0, iV l3, iV (l4 + ((max 0 ((u7.1 ((u7.2 232 0) + 3) l5) - 1)) * l3)), iV (l5 + 1)] [] u7 Q)))))) else ((0 ≤ l4) ∧ ((l4 ≤ 240000) ∧ (∀ u13 : uS, u13 = fil u 250 0 l4 9000000000000000000 → ((isO (u13.2 232 0) 2) ∧ ((0 ≤ (u13.1 (u13.2 232 0) 0) * l3) ∧ (((u13.1 (u13.2 232 0) 0) * l3 ≤ 16000) ∧ (∀ u18 : uS, u18 = fil u13 249 0 ((u13.1 (u13.2 232 0) 0) * l3) 0 → (∀ u20 : uS, u20 = fil u18 247 0 400 0 → (Q u20))))))))))))) : K_144 (d + 2) 56 [.ref 232, .retAddr 0, .retAddr 0, iV l3, iV l4, iV l5] [] u Q := by
  unfold K_144
  refine u_ld (v := iV l5) (pc := 56) (dec_at lsk_144 (k := 32) rfl) rfl ?_
  refine u_ld (v := .ref 232) (pc := 58) (dec_at lsk_144 (k := 33) rfl) rfl ?_
  refine u_gR (z := 0) (pc := 59) (dec_at lsk_144 (k := 34) rfl) f_11_12 sx_232 rfl rfl ?_
  have g1 := h.1
  have h := h.2
  refine u_gI (z := 1) (pc := 62) (dec_at lsk_144 (k := 35) rfl) f_11_69 g1 rfl rfl ?_
  have g2 := h.1
  have h := h.2
  have g3 := h.1
  have h := h.2
  refine u_icF (pc := 65) (tgt := 106) (dec_at lsk_144 (k := 36) rfl) rfl (ci_ge g2 g3) (fun e4 => ?_) (fun e4 => ?_)
  · have h := ifT e4 h
    refine u_ld (v := .ref 232) (pc := 68) (dec_at lsk_144 (k := 37) rfl) rfl ?_
    refine u_gS (o := 20) (p := 252) (pc := 69) (dec_at lsk_144 (k := 38) rfl) f_11_56 sx_232 rfl rfl ?_
    refine u_ld (v := iV l5) (pc := 72) (dec_at lsk_144 (k := 39) rfl) rfl ?_
    refine u_ld (v := iV l4) (pc := 74) (dec_at lsk_144 (k := 40) rfl) rfl ?_
    have g5 := h.1
    have h := h.2
    have g6 := h.1
    have h := h.2
    refine u_iast (pc := 76) (dec_at lsk_144 (k := 41) rfl) sx_252 g5 g6 (fun u7 e8 => ?_)
    have h := h u7 e8
    refine u_ld (v := iV l4) (pc := 77) (dec_at lsk_144 (k := 42) rfl) rfl ?_
    refine u_ld (v := iV 0) (pc := 79) (dec_at lsk_144 (k := 43) rfl) rfl ?_
    refine u_ld (v := .ref 232) (pc := 80) (dec_at lsk_144 (k := 44) rfl) rfl ?_
    refine u_gR (z := 0) (pc := 81) (dec_at lsk_144 (k := 45) rfl) f_11_12 sx_232 rfl rfl ?_
    have g9 := h.1
    have h := h.2
    refine u_gS (o := 3) (p := (u7.2 232 0) + 3) (pc := 84) (dec_at lsk_144 (k := 46) rfl) f_11_109 g9 rfl rfl ?_
    refine u_ld (v := iV l5) (pc := 87) (dec_at lsk_144 (k := 47) rfl) rfl ?_
    refine u_iald (pc := 89) (dec_at lsk_144 (k := 48) rfl) (sa_2_4 g9) g5 g6 ?_
    refine u_ld (v := iV 1) (pc := 90) (dec_at lsk_144 (k := 49) rfl) rfl ?_
    refine u_isub (pc := 91) (dec_at lsk_144 (k := 50) rfl) ?_
    have g10 := h.1
    have h := h.2
    refine u_max (pc := 92) (dec_at lsk_144 (k := 51) rfl) m_11_100 (by decide) g10 (Nat.le_of_ble_eq_true rfl) ?_
    refine u_ld (v := iV l3) (pc := 95) (dec_at lsk_144 (k := 52) rfl) rfl ?_
    refine u_imul (pc := 96) (dec_at lsk_144 (k := 53) rfl) ?_
    refine u_iadd (pc := 97) (dec_at lsk_144 (k := 54) rfl) ?_
    refine u_sto (lv' := [.ref 232, .retAddr 0, .retAddr 0, iV l3, iV (l4 + ((max 0 ((u7.1 ((u7.2 232 0) + 3) l5) - 1)) * l3)), iV l5]) (pc := 98) (dec_at lsk_144 (k := 55) rfl) rfl ?_
    refine u_inc (lv' := [.ref 232, .retAddr 0, .retAddr 0, iV l3, iV (l4 + ((max 0 ((u7.1 ((u7.2 232 0) + 3) l5) - 1)) * l3)), iV (l5 + 1)]) (pc := 100) (dec_at lsk_144 (k := 56) rfl) rfl (by decide) rfl ?_
    refine u_goto (pc := 103) (tgt := 56) (dec_at lsk_144 (k := 57) rfl) rfl ?_
    exact h
  · have h := ifF e4 h
    refine u_ld (v := .ref 232) (pc := 106) (dec_at lsk_144 (k := 58) rfl) rfl ?_
    refine u_gS (o := 18) (p := 250) (pc := 107) (dec_at lsk_144 (k := 59) rfl) f_11_50 sx_232 rfl rfl ?_
    refine u_ld (v := iV 0) (pc := 110) (dec_at lsk_144 (k := 60) rfl) rfl ?_
    refine u_ld (v := iV l4) (pc := 111) (dec_at lsk_144 (k := 61) rfl) rfl ?_
    refine u_ldc2 (x := 9000000000000000000) (pc := 113) (dec_at lsk_144 (k := 62) rfl) con_11_111 (by decide) ?_
    have g11 := h.1
    have h := h.2
    have g12 := h.1
    have h := h.2
    refine u_csV (As := [.ref 250, iV 0, iV l4, lV 9000000000000000000]) (st2 := []) (pc := 116) (dec_at lsk_144 (k := 63) rfl) m_11_113 (Or.inl rfl) rfl (Nat.le_of_ble_eq_true rfl) (q_145 sx_250 (by decide) g11 g12) (fun u13 e14 => ?_)
    have h := h u13 e14
    refine u_ld (v := .ref 232) (pc := 119) (dec_at lsk_144 (k := 64) rfl) rfl ?_
    refine u_gS (o := 17) (p := 249) (pc := 120) (dec_at lsk_144 (k := 65) rfl) f_11_46 sx_232 rfl rfl ?_
    refine u_ld (v := iV 0) (pc := 123) (dec_at lsk_144 (k := 66) rfl) rfl ?_
    refine u_ld (v := .ref 232) (pc := 124) (dec_at lsk_144 (k := 67) rfl) rfl ?_
    refine u_gR (z := 0) (pc := 125) (dec_at lsk_144 (k := 68) rfl) f_11_12 sx_232 rfl rfl ?_
    have g15 := h.1
    have h := h.2
    refine u_gI (z := 0) (pc := 128) (dec_at lsk_144 (k := 69) rfl) f_11_119 g15 rfl rfl ?_
    refine u_ld (v := iV l3) (pc := 131) (dec_at lsk_144 (k := 70) rfl) rfl ?_
    refine u_imul (pc := 132) (dec_at lsk_144 (k := 71) rfl) ?_
    refine u_ld (v := iV 0) (pc := 133) (dec_at lsk_144 (k := 72) rfl) rfl ?_
    have g16 := h.1
    have h := h.2
    have g17 := h.1
    have h := h.2
    refine u_csV (As := [.ref 249, iV 0, iV ((u13.1 (u13.2 232 0) 0) * l3), iV 0]) (st2 := []) (pc := 134) (dec_at lsk_144 (k := 73) rfl) m_11_122 (Or.inl rfl) rfl (Nat.le_of_ble_eq_true rfl) (q_83 sx_249 (by decide) g16 g17) (fun u18 e19 => ?_)
    have h := h u18 e19
    refine u_ld (v := .ref 232) (pc := 137) (dec_at lsk_144 (k := 74) rfl) rfl ?_
    refine u_gS (o := 15) (p := 247) (pc := 138) (dec_at lsk_144 (k := 75) rfl) f_11_40 sx_232 rfl rfl ?_
    refine u_cl (x := 0) (pc := 141) (dec_at lsk_144 (k := 76) rfl) rfl (by decide) ?_
    refine u_csV (As := [.ref 247, lV 0]) (st2 := []) (pc := 142) (dec_at lsk_144 (k := 77) rfl) m_11_125 (Or.inl rfl) rfl (Nat.le_of_ble_eq_true rfl) (q_49 sx_247) (fun u20 e21 => ?_)
    have h := h u20 e21
    exact u_rV (pc := 145) (dec_at lsk_144 (k := 78) rfl) rfl h
/-- method 146 -/
def K_146 (d pc : Nat) (lv : ev_L) (st : List Value) (u : uS) (Q : uS → Prop) : Prop := okU d 11 14 false none prog_9_method_10_code (qV Q) pc lv st u
theorem e_146 {d : Nat} {Q : uS → Prop} {u : uS} {l1 l2 l3 l4 l5 l7 : Int} (h : (rL l5) ∧ (if l5 < 4000000000000000000 then ((isO (u.2 232 0) 2) ∧ ((0 ≤ l1) ∧ ((l1 < 30) ∧ ((rI l2) ∧ ((rI (u.1 ((u.2 232 0) + 3) l1)) ∧ (if l2 < u.1 ((u.2 232 0) + 3) l1 then (if 0 < l2 then ((0 ≤ ((u.1 252 l1) + ((((l2 - 1) * (u.1 232 2)) + l3) * (u.1 232 2))) + l4) ∧ ((((u.1 252 l1) + ((((l2 - 1) * (u.1 232 2)) + l3) * (u.1 232 2))) + l4 < 240000) ∧ ((rL (u.1 250 (((u.1 252 l1) + ((((l2 - 1) * (u.1 232 2)) + l3) * (u.1 232 2))) + l4))) ∧ (if u.1 250 (((u.1 252 l1) + ((((l2 - 1) * (u.1 232 2)) + l3) * (u.1 232 2))) + l4) < l5 then (Q u) else (if l5 = u.1 250 (((u.1 252 l1) + ((((l2 - 1) * (u.1 232 2)) + l3) * (u.1 232 2))) + l4) then ((rI l7) ∧ ((rI (u.1 251 (((u.1 252 l1) + ((((l2 - 1) * (u.1 232 2)) + l3) * (u.1 232 2))) + l4))) ∧ (if l7 < u.1 251 (((u.1 252 l1) + ((((l2 - 1) * (u.1 232 2)) + l3) * (u.1 232 2))) + l4) then (∀ u18 : uS, u18 = wr u 250 (((u.1 252 l1) + ((((l2 - 1) * (u.1 232 2)) + l3) * (u.1 232 2))) + l4) l5 → (∀ u20 : uS, u20 = wr u18 251 (((u.1 252 l1) + ((((l2 - 1) * (u.1 232 2)) + l3) * (u.1 232 2))) + l4) l7 → (K_146 (d + 2) 75 [.ref 232, iV l1, iV l2, iV l3, iV l4, lV l5, .retAddr 0, iV l7, .retAddr 0, .retAddr 0, .retAddr 0, .retAddr 0, .retAddr 0, .retAddr 0] [] u20 Q))) else (Q u)))) else (∀ u22 : uS, u22 = wr u 250 (((u.1 252 l1) + ((((l2 - 1) * (u.1 232 2)) + l3) * (u.1 232 2))) + l4) l5 → (∀ u24 : uS, u24 = wr u22 251 (((u.1 252 l1) + ((((l2 - 1) * (u.1 232 2)) + l3) * (u.1 232 2))) + l4) l7 → (K_146 (d + 2) 75 [.ref 232, iV l1, iV l2, iV l3, iV l4, lV l5, .retAddr 0, iV l7, .retAddr 0, .retAddr 0, .retAddr 0, .retAddr 0, .retAddr 0, .retAddr 0] [] u24 Q)))))))) else (K_146 (d + 2) 75 [.ref 232, iV l1, iV l2, iV l3, iV l4, lV l5, .retAddr 0, iV l7, .retAddr 0, .retAddr 0, .retAddr 0, .retAddr 0, .retAddr 0, .retAddr 0] [] u Q)) else (cV (d + 2) 148 [.ref 232, iV (((((u.1 ((u.2 232 0) + 2) l1) * (u.1 232 2)) + l3) * (u.1 232 2)) + l4), lV l5, iV (l7 + 1)] u (fun u26 => Q u26)))))))) else (Q u))) : cV (d + 3) 146 [.ref 232, iV l1, iV l2, iV l3, iV l4, lV l5, iV l7] u Q := by
  refine u_of me_146 (Nat.le_of_ble_eq_true rfl) ?_
  refine u_ld (v := lV l5) (pc := 0) (dec_at lsk_146 (k := 0) rfl) rfl ?_
  refine u_ldc2 (x := 4000000000000000000) (pc := 2) (dec_at lsk_146 (k := 1) rfl) con_11_131 (by decide) ?_
  refine u_st (st' := [.int (lg_cmp (Int64.ofInt l5) (Int64.ofInt 4000000000000000000))]) (pc := 5) (dec_at lsk_146 (k := 2) rfl) rfl ?_
  have g1 := h.1
  have h := h.2
  refine u_ifT (pc := 6) (tgt := 10) (dec_at lsk_146 (k := 3) rfl) rfl (cl_lt g1 (by decide)) (fun e2 => ?_) (fun e2 => ?_)
  · have h := ifT e2 h
    refine u_ld (v := iV l2) (pc := 10) (dec_at lsk_146 (k := 5) rfl) rfl ?_
    refine u_ld (v := .ref 232) (pc := 11) (dec_at lsk_146 (k := 6) rfl) rfl ?_
    refine u_gR (z := 0) (pc := 12) (dec_at lsk_146 (k := 7) rfl) f_11_12 sx_232 rfl rfl ?_
    have g3 := h.1
    have h := h.2
    refine u_gS (o := 3) (p := (u.2 232 0) + 3) (pc := 15) (dec_at lsk_146 (k := 8) rfl) f_11_109 g3 rfl rfl ?_
    refine u_ld (v := iV l1) (pc := 18) (dec_at lsk_146 (k := 9) rfl) rfl ?_
    have g4 := h.1
    have h := h.2
    have g5 := h.1
    have h := h.2
    refine u_iald (pc := 19) (dec_at lsk_146 (k := 10) rfl) (sa_2_4 g3) g4 g5 ?_
    have g6 := h.1
    have h := h.2
    have g7 := h.1
    have h := h.2
    refine u_icT (pc := 20) (tgt := 50) (dec_at lsk_146 (k := 11) rfl) rfl (ci_lt g6 g7) (fun e8 => ?_) (fun e8 => ?_)
    · have h := ifT e8 h
      refine u_ld (v := iV l2) (pc := 50) (dec_at lsk_146 (k := 28) rfl) rfl ?_
      refine u_ifF (pc := 51) (tgt := 75) (dec_at lsk_146 (k := 29) rfl) rfl (c0_le g6) (fun e9 => ?_) (fun e9 => ?_)
      · have h := ifT e9 h
        refine u_ld (v := .ref 232) (pc := 54) (dec_at lsk_146 (k := 30) rfl) rfl ?_
        refine u_ld (v := .ref 232) (pc := 55) (dec_at lsk_146 (k := 31) rfl) rfl ?_
        refine u_ld (v := iV l1) (pc := 56) (dec_at lsk_146 (k := 32) rfl) rfl ?_
        refine u_ld (v := iV l2) (pc := 57) (dec_at lsk_146 (k := 33) rfl) rfl ?_
        refine u_ld (v := iV l3) (pc := 58) (dec_at lsk_146 (k := 34) rfl) rfl ?_
        refine u_ld (v := iV l4) (pc := 59) (dec_at lsk_146 (k := 35) rfl) rfl ?_
        refine u_cvI (As := [iV l1, iV l2, iV l3, iV l4]) (rb := 232) (st2 := [.ref 232]) (pc := 61) (dec_at lsk_146 (k := 36) rfl) m_11_144 (Or.inl rfl) rfl (Nat.le_of_ble_eq_true rfl) sx_232 me_155 rfl ?_ (fun _ _ h_ => h_)
        refine u_of me_155 (Nat.le_of_ble_eq_true rfl) ?_
        refine u_ld (v := .ref 232) (pc := 0) (dec_at lsk_155 (k := 0) rfl) rfl ?_
        refine u_gS (o := 20) (p := 252) (pc := 1) (dec_at lsk_155 (k := 1) rfl) f_11_56 sx_232 rfl rfl ?_
        refine u_ld (v := iV l1) (pc := 4) (dec_at lsk_155 (k := 2) rfl) rfl ?_
        refine u_iald (pc := 5) (dec_at lsk_155 (k := 3) rfl) sx_252 g4 g5 ?_
        refine u_ld (v := iV l2) (pc := 6) (dec_at lsk_155 (k := 4) rfl) rfl ?_
        refine u_ld (v := iV 1) (pc := 7) (dec_at lsk_155 (k := 5) rfl) rfl ?_
        refine u_isub (pc := 8) (dec_at lsk_155 (k := 6) rfl) ?_
        refine u_ld (v := .ref 232) (pc := 9) (dec_at lsk_155 (k := 7) rfl) rfl ?_
        refine u_gI (z := 2) (pc := 10) (dec_at lsk_155 (k := 8) rfl) f_11_25 sx_232 rfl rfl ?_
        refine u_imul (pc := 13) (dec_at lsk_155 (k := 9) rfl) ?_
        refine u_ld (v := iV l3) (pc := 14) (dec_at lsk_155 (k := 10) rfl) rfl ?_
        refine u_iadd (pc := 15) (dec_at lsk_155 (k := 11) rfl) ?_
        refine u_ld (v := .ref 232) (pc := 16) (dec_at lsk_155 (k := 12) rfl) rfl ?_
        refine u_gI (z := 2) (pc := 17) (dec_at lsk_155 (k := 13) rfl) f_11_25 sx_232 rfl rfl ?_
        refine u_imul (pc := 20) (dec_at lsk_155 (k := 14) rfl) ?_
        refine u_iadd (pc := 21) (dec_at lsk_155 (k := 15) rfl) ?_
        refine u_ld (v := iV l4) (pc := 22) (dec_at lsk_155 (k := 16) rfl) rfl ?_
        refine u_iadd (pc := 24) (dec_at lsk_155 (k := 17) rfl) ?_
        refine u_rI (pc := 25) (dec_at lsk_155 (k := 18) rfl) rfl ?_
        refine u_ld (v := lV l5) (pc := 64) (dec_at lsk_146 (k := 37) rfl) rfl ?_
        refine u_ld (v := iV l7) (pc := 66) (dec_at lsk_146 (k := 38) rfl) rfl ?_
        refine u_cvI (As := [iV (((u.1 252 l1) + ((((l2 - 1) * (u.1 232 2)) + l3) * (u.1 232 2))) + l4), lV l5, iV l7]) (rb := 232) (st2 := []) (pc := 68) (dec_at lsk_146 (k := 39) rfl) m_11_148 (Or.inl rfl) rfl (Nat.le_of_ble_eq_true rfl) sx_232 me_156 rfl ?_ (fun _ _ h_ => h_)
        refine u_of me_156 (Nat.le_of_ble_eq_true rfl) ?_
        refine u_ld (v := lV l5) (pc := 0) (dec_at lsk_156 (k := 0) rfl) rfl ?_
        refine u_ld (v := .ref 232) (pc := 1) (dec_at lsk_156 (k := 1) rfl) rfl ?_
        refine u_gS (o := 18) (p := 250) (pc := 2) (dec_at lsk_156 (k := 2) rfl) f_11_50 sx_232 rfl rfl ?_
        refine u_ld (v := iV (((u.1 252 l1) + ((((l2 - 1) * (u.1 232 2)) + l3) * (u.1 232 2))) + l4)) (pc := 5) (dec_at lsk_156 (k := 3) rfl) rfl ?_
        have g10 := h.1
        have h := h.2
        have g11 := h.1
        have h := h.2
        refine u_lald (pc := 6) (dec_at lsk_156 (k := 4) rfl) sx_250 g10 g11 ?_
        refine u_st (st' := [.int (lg_cmp (Int64.ofInt l5) (Int64.ofInt (u.1 250 (((u.1 252 l1) + ((((l2 - 1) * (u.1 232 2)) + l3) * (u.1 232 2))) + l4))))]) (pc := 7) (dec_at lsk_156 (k := 5) rfl) rfl ?_
        have g12 := h.1
        have h := h.2
        refine u_ifT (pc := 8) (tgt := 33) (dec_at lsk_156 (k := 6) rfl) rfl (cl_gt g1 g12) (fun e13 => ?_) (fun e13 => ?_)
        · have h := ifT e13 h
          refine u_ld (v := iV 0) (pc := 33) (dec_at lsk_156 (k := 20) rfl) rfl ?_
          refine u_rZ (pc := 34) (dec_at lsk_156 (k := 21) rfl) rfl (by decide) ?_
          refine u_ifF (pc := 71) (tgt := 75) (dec_at lsk_146 (k := 40) rfl) rfl (c0_ne (by decide)) (fun _ => ?_) (fun e => absurd e (by decide))
          exact u_rV (pc := 74) (dec_at lsk_146 (k := 41) rfl) rfl h
        · have h := ifF e13 h
          refine u_ld (v := lV l5) (pc := 11) (dec_at lsk_156 (k := 7) rfl) rfl ?_
          refine u_ld (v := .ref 232) (pc := 12) (dec_at lsk_156 (k := 8) rfl) rfl ?_
          refine u_gS (o := 18) (p := 250) (pc := 13) (dec_at lsk_156 (k := 9) rfl) f_11_50 sx_232 rfl rfl ?_
          refine u_ld (v := iV (((u.1 252 l1) + ((((l2 - 1) * (u.1 232 2)) + l3) * (u.1 232 2))) + l4)) (pc := 16) (dec_at lsk_156 (k := 10) rfl) rfl ?_
          refine u_lald (pc := 17) (dec_at lsk_156 (k := 11) rfl) sx_250 g10 g11 ?_
          refine u_st (st' := [.int (lg_cmp (Int64.ofInt l5) (Int64.ofInt (u.1 250 (((u.1 252 l1) + ((((l2 - 1) * (u.1 232 2)) + l3) * (u.1 232 2))) + l4))))]) (pc := 18) (dec_at lsk_156 (k := 12) rfl) rfl ?_
          refine u_ifF (pc := 19) (tgt := 35) (dec_at lsk_156 (k := 13) rfl) rfl (cl_ne g1 g12) (fun e14 => ?_) (fun e14 => ?_)
          · have h := ifT e14 h
            refine u_ld (v := iV l7) (pc := 22) (dec_at lsk_156 (k := 14) rfl) rfl ?_
            refine u_ld (v := .ref 232) (pc := 24) (dec_at lsk_156 (k := 15) rfl) rfl ?_
            refine u_gS (o := 19) (p := 251) (pc := 25) (dec_at lsk_156 (k := 16) rfl) f_11_53 sx_232 rfl rfl ?_
            refine u_ld (v := iV (((u.1 252 l1) + ((((l2 - 1) * (u.1 232 2)) + l3) * (u.1 232 2))) + l4)) (pc := 28) (dec_at lsk_156 (k := 17) rfl) rfl ?_
            refine u_iald (pc := 29) (dec_at lsk_156 (k := 18) rfl) sx_251 g10 g11 ?_
            have g15 := h.1
            have h := h.2
            have g16 := h.1
            have h := h.2
            refine u_icT (pc := 30) (tgt := 35) (dec_at lsk_156 (k := 19) rfl) rfl (ci_lt g15 g16) (fun e17 => ?_) (fun e17 => ?_)
            · have h := ifT e17 h
              refine u_ld (v := .ref 232) (pc := 35) (dec_at lsk_156 (k := 22) rfl) rfl ?_
              refine u_gS (o := 18) (p := 250) (pc := 36) (dec_at lsk_156 (k := 23) rfl) f_11_50 sx_232 rfl rfl ?_
              refine u_ld (v := iV (((u.1 252 l1) + ((((l2 - 1) * (u.1 232 2)) + l3) * (u.1 232 2))) + l4)) (pc := 39) (dec_at lsk_156 (k := 24) rfl) rfl ?_
              refine u_ld (v := lV l5) (pc := 40) (dec_at lsk_156 (k := 25) rfl) rfl ?_
              refine u_last (pc := 41) (dec_at lsk_156 (k := 26) rfl) sx_250 g10 g11 (fun u18 e19 => ?_)
              have h := h u18 e19
              refine u_ld (v := .ref 232) (pc := 42) (dec_at lsk_156 (k := 27) rfl) rfl ?_
              refine u_gS (o := 19) (p := 251) (pc := 43) (dec_at lsk_156 (k := 28) rfl) f_11_53 sx_232 rfl rfl ?_
              refine u_ld (v := iV (((u.1 252 l1) + ((((l2 - 1) * (u.1 232 2)) + l3) * (u.1 232 2))) + l4)) (pc := 46) (dec_at lsk_156 (k := 29) rfl) rfl ?_
              refine u_ld (v := iV l7) (pc := 47) (dec_at lsk_156 (k := 30) rfl) rfl ?_
              refine u_iast (pc := 49) (dec_at lsk_156 (k := 31) rfl) sx_251 g10 g11 (fun u20 e21 => ?_)
              have h := h u20 e21
              refine u_ld (v := iV 1) (pc := 50) (dec_at lsk_156 (k := 32) rfl) rfl ?_
              refine u_rZ (pc := 51) (dec_at lsk_156 (k := 33) rfl) rfl (by decide) ?_
              refine u_ifF (pc := 71) (tgt := 75) (dec_at lsk_146 (k := 40) rfl) rfl (c0_ne (by decide)) (fun e => absurd e (by decide)) (fun _ => ?_)
              exact h
            · have h := ifF e17 h
              refine u_ld (v := iV 0) (pc := 33) (dec_at lsk_156 (k := 20) rfl) rfl ?_
              refine u_rZ (pc := 34) (dec_at lsk_156 (k := 21) rfl) rfl (by decide) ?_
              refine u_ifF (pc := 71) (tgt := 75) (dec_at lsk_146 (k := 40) rfl) rfl (c0_ne (by decide)) (fun _ => ?_) (fun e => absurd e (by decide))
              exact u_rV (pc := 74) (dec_at lsk_146 (k := 41) rfl) rfl h
          · have h := ifF e14 h
            refine u_ld (v := .ref 232) (pc := 35) (dec_at lsk_156 (k := 22) rfl) rfl ?_
            refine u_gS (o := 18) (p := 250) (pc := 36) (dec_at lsk_156 (k := 23) rfl) f_11_50 sx_232 rfl rfl ?_
            refine u_ld (v := iV (((u.1 252 l1) + ((((l2 - 1) * (u.1 232 2)) + l3) * (u.1 232 2))) + l4)) (pc := 39) (dec_at lsk_156 (k := 24) rfl) rfl ?_
            refine u_ld (v := lV l5) (pc := 40) (dec_at lsk_156 (k := 25) rfl) rfl ?_
            refine u_last (pc := 41) (dec_at lsk_156 (k := 26) rfl) sx_250 g10 g11 (fun u22 e23 => ?_)
            have h := h u22 e23
            refine u_ld (v := .ref 232) (pc := 42) (dec_at lsk_156 (k := 27) rfl) rfl ?_
            refine u_gS (o := 19) (p := 251) (pc := 43) (dec_at lsk_156 (k := 28) rfl) f_11_53 sx_232 rfl rfl ?_
            refine u_ld (v := iV (((u.1 252 l1) + ((((l2 - 1) * (u.1 232 2)) + l3) * (u.1 232 2))) + l4)) (pc := 46) (dec_at lsk_156 (k := 29) rfl) rfl ?_
            refine u_ld (v := iV l7) (pc := 47) (dec_at lsk_156 (k := 30) rfl) rfl ?_
            refine u_iast (pc := 49) (dec_at lsk_156 (k := 31) rfl) sx_251 g10 g11 (fun u24 e25 => ?_)
            have h := h u24 e25
            refine u_ld (v := iV 1) (pc := 50) (dec_at lsk_156 (k := 32) rfl) rfl ?_
            refine u_rZ (pc := 51) (dec_at lsk_156 (k := 33) rfl) rfl (by decide) ?_
            refine u_ifF (pc := 71) (tgt := 75) (dec_at lsk_146 (k := 40) rfl) rfl (c0_ne (by decide)) (fun e => absurd e (by decide)) (fun _ => ?_)
            exact h
      · have h := ifF e9 h
        exact h
    · have h := ifF e8 h
      refine u_ld (v := .ref 232) (pc := 23) (dec_at lsk_146 (k := 12) rfl) rfl ?_
      refine u_ld (v := .ref 232) (pc := 24) (dec_at lsk_146 (k := 13) rfl) rfl ?_
      refine u_ld (v := .ref 232) (pc := 25) (dec_at lsk_146 (k := 14) rfl) rfl ?_
      refine u_gR (z := 0) (pc := 26) (dec_at lsk_146 (k := 15) rfl) f_11_12 sx_232 rfl rfl ?_
      refine u_gS (o := 2) (p := (u.2 232 0) + 2) (pc := 29) (dec_at lsk_146 (k := 16) rfl) f_11_133 g3 rfl rfl ?_
      refine u_ld (v := iV l1) (pc := 32) (dec_at lsk_146 (k := 17) rfl) rfl ?_
      refine u_iald (pc := 33) (dec_at lsk_146 (k := 18) rfl) (sa_2_3 g3) g4 g5 ?_
      refine u_ld (v := iV l3) (pc := 34) (dec_at lsk_146 (k := 19) rfl) rfl ?_
      refine u_ld (v := iV l4) (pc := 35) (dec_at lsk_146 (k := 20) rfl) rfl ?_
      refine u_cvI (As := [iV (u.1 ((u.2 232 0) + 2) l1), iV l3, iV l4]) (rb := 232) (st2 := [.ref 232]) (pc := 37) (dec_at lsk_146 (k := 21) rfl) m_11_136 (Or.inl rfl) rfl (Nat.le_of_ble_eq_true rfl) sx_232 me_147 rfl ?_ (fun _ _ h_ => h_)
      refine u_of me_147 (Nat.le_of_ble_eq_true rfl) ?_
      refine u_ld (v := iV (u.1 ((u.2 232 0) + 2) l1)) (pc := 0) (dec_at lsk_147 (k := 0) rfl) rfl ?_
      refine u_ld (v := .ref 232) (pc := 1) (dec_at lsk_147 (k := 1) rfl) rfl ?_
      refine u_gI (z := 2) (pc := 2) (dec_at lsk_147 (k := 2) rfl) f_11_25 sx_232 rfl rfl ?_
      refine u_imul (pc := 5) (dec_at lsk_147 (k := 3) rfl) ?_
      refine u_ld (v := iV l3) (pc := 6) (dec_at lsk_147 (k := 4) rfl) rfl ?_
      refine u_iadd (pc := 7) (dec_at lsk_147 (k := 5) rfl) ?_
      refine u_ld (v := .ref 232) (pc := 8) (dec_at lsk_147 (k := 6) rfl) rfl ?_
      refine u_gI (z := 2) (pc := 9) (dec_at lsk_147 (k := 7) rfl) f_11_25 sx_232 rfl rfl ?_
      refine u_imul (pc := 12) (dec_at lsk_147 (k := 8) rfl) ?_
      refine u_ld (v := iV l4) (pc := 13) (dec_at lsk_147 (k := 9) rfl) rfl ?_
      refine u_iadd (pc := 14) (dec_at lsk_147 (k := 10) rfl) ?_
      refine u_rI (pc := 15) (dec_at lsk_147 (k := 11) rfl) rfl ?_
      refine u_ld (v := lV l5) (pc := 40) (dec_at lsk_146 (k := 22) rfl) rfl ?_
      refine u_ld (v := iV l7) (pc := 42) (dec_at lsk_146 (k := 23) rfl) rfl ?_
      refine u_ld (v := iV 1) (pc := 44) (dec_at lsk_146 (k := 24) rfl) rfl ?_
      refine u_iadd (pc := 45) (dec_at lsk_146 (k := 25) rfl) ?_
      refine u_cvV (As := [iV (((((u.1 ((u.2 232 0) + 2) l1) * (u.1 232 2)) + l3) * (u.1 232 2)) + l4), lV l5, iV (l7 + 1)]) (rb := 232) (st2 := []) (pc := 46) (dec_at lsk_146 (k := 26) rfl) m_11_140 (Or.inl rfl) rfl (Nat.le_of_ble_eq_true rfl) sx_232 me_148 rfl h (fun u26 h => ?_)
      exact u_rV (pc := 49) (dec_at lsk_146 (k := 27) rfl) rfl h
  · have h := ifF e2 h
    exact u_rV (pc := 9) (dec_at lsk_146 (k := 4) rfl) rfl h
theorem k_146_75 {d : Nat} {Q : uS → Prop} {u : uS} {l1 l2 l3 l4 l5 l7 : Int} (h : (isO (u.2 232 0) 2) ∧ ((0 ≤ (l1 * 6) + l2) ∧ (((l1 * 6) + l2 < 180) ∧ ((rI (u.1 ((u.2 232 0) + 4) ((l1 * 6) + l2))) ∧ (if u.1 ((u.2 232 0) + 4) ((l1 * 6) + l2) < 100 then ((isO (u.2 232 1) 5) ∧ ((0 ≤ (l4 * 10) + (u.1 ((u.2 232 0) + 4) ((l1 * 6) + l2))) ∧ (((l4 * 10) + (u.1 ((u.2 232 0) + 4) ((l1 * 6) + l2)) < 400) ∧ (cV (d + 2) 146 [.ref 232, iV l1, iV (l2 + 1), iV l3, iV (u.1 ((u.2 232 1) + 1) ((l4 * 10) + (u.1 ((u.2 232 0) + 4) ((l1 * 6) + l2)))), lV (l5 + 1), iV l7] u (fun u9 => Q u9))))) else ((0 ≤ (((u.1 ((u.2 232 0) + 4) ((l1 * 6) + l2)) - 100) * 40) + l4) ∧ (((((u.1 ((u.2 232 0) + 4) ((l1 * 6) + l2)) - 100) * 40) + l4 < 400) ∧ (K_146 (d + 2) 141 [.ref 232, iV l1, iV l2, iV l3, iV l4, lV l5, .retAddr 0, iV l7, .retAddr 0, iV ((u.1 ((u.2 232 0) + 4) ((l1 * 6) + l2)) - 100), lV (u.1 247 ((((u.1 ((u.2 232 0) + 4) ((l1 * 6) + l2)) - 100) * 40) + l4)), .retAddr 0, .retAddr 0, .retAddr 0] [] u Q)))))))) : K_146 (d + 2) 75 [.ref 232, iV l1, iV l2, iV l3, iV l4, lV l5, .retAddr 0, iV l7, .retAddr 0, .retAddr 0, .retAddr 0, .retAddr 0, .retAddr 0, .retAddr 0] [] u Q := by
  unfold K_146
  refine u_ld (v := .ref 232) (pc := 75) (dec_at lsk_146 (k := 42) rfl) rfl ?_
  refine u_gR (z := 0) (pc := 76) (dec_at lsk_146 (k := 43) rfl) f_11_12 sx_232 rfl rfl ?_
  refine u_ld (v := iV l1) (pc := 79) (dec_at lsk_146 (k := 44) rfl) rfl ?_
  refine u_ld (v := iV l2) (pc := 80) (dec_at lsk_146 (k := 45) rfl) rfl ?_
  have g1 := h.1
  have h := h.2
  refine u_cvI (As := [iV l1, iV l2]) (rb := u.2 232 0) (st2 := []) (pc := 81) (dec_at lsk_146 (k := 46) rfl) m_11_152 (Or.inl rfl) rfl (Nat.le_of_ble_eq_true rfl) g1 me_42 rfl ?_ (fun _ _ h_ => h_)
  refine u_of me_42 (Nat.le_of_ble_eq_true rfl) ?_
  refine u_ld (v := .ref (u.2 232 0)) (pc := 0) (dec_at lsk_42 (k := 0) rfl) rfl ?_
  refine u_gS (o := 4) (p := (u.2 232 0) + 4) (pc := 1) (dec_at lsk_42 (k := 1) rfl) f_2_21 g1 rfl rfl ?_
  refine u_ld (v := iV l1) (pc := 4) (dec_at lsk_42 (k := 2) rfl) rfl ?_
  refine u_c (x := 6) (pc := 5) (dec_at lsk_42 (k := 3) rfl) rfl (by decide) ?_
  refine u_imul (pc := 7) (dec_at lsk_42 (k := 4) rfl) ?_
  refine u_ld (v := iV l2) (pc := 8) (dec_at lsk_42 (k := 5) rfl) rfl ?_
  refine u_iadd (pc := 9) (dec_at lsk_42 (k := 6) rfl) ?_
  have g2 := h.1
  have h := h.2
  have g3 := h.1
  have h := h.2
  refine u_iald (pc := 10) (dec_at lsk_42 (k := 7) rfl) (sa_2_5 g1) g2 g3 ?_
  refine u_rI (pc := 11) (dec_at lsk_42 (k := 8) rfl) rfl ?_
  refine u_sto (lv' := [.ref 232, iV l1, iV l2, iV l3, iV l4, lV l5, .retAddr 0, iV l7, iV (u.1 ((u.2 232 0) + 4) ((l1 * 6) + l2)), .retAddr 0, .retAddr 0, .retAddr 0, .retAddr 0, .retAddr 0]) (pc := 84) (dec_at lsk_146 (k := 47) rfl) rfl ?_
  refine u_ld (v := iV (u.1 ((u.2 232 0) + 4) ((l1 * 6) + l2))) (pc := 86) (dec_at lsk_146 (k := 48) rfl) rfl ?_
  refine u_c (x := 100) (pc := 88) (dec_at lsk_146 (k := 49) rfl) rfl (by decide) ?_
  have g4 := h.1
  have h := h.2
  refine u_icF (pc := 90) (tgt := 120) (dec_at lsk_146 (k := 50) rfl) rfl (ci_ge g4 (by decide)) (fun e5 => ?_) (fun e5 => ?_)
  · have h := ifT e5 h
    refine u_ld (v := .ref 232) (pc := 93) (dec_at lsk_146 (k := 51) rfl) rfl ?_
    refine u_ld (v := iV l1) (pc := 94) (dec_at lsk_146 (k := 52) rfl) rfl ?_
    refine u_ld (v := iV l2) (pc := 95) (dec_at lsk_146 (k := 53) rfl) rfl ?_
    refine u_ld (v := iV 1) (pc := 96) (dec_at lsk_146 (k := 54) rfl) rfl ?_
    refine u_iadd (pc := 97) (dec_at lsk_146 (k := 55) rfl) ?_
    refine u_ld (v := iV l3) (pc := 98) (dec_at lsk_146 (k := 56) rfl) rfl ?_
    refine u_ld (v := .ref 232) (pc := 99) (dec_at lsk_146 (k := 57) rfl) rfl ?_
    refine u_gR (z := 1) (pc := 100) (dec_at lsk_146 (k := 58) rfl) f_11_21 sx_232 rfl rfl ?_
    refine u_ld (v := iV l4) (pc := 103) (dec_at lsk_146 (k := 59) rfl) rfl ?_
    refine u_ld (v := iV (u.1 ((u.2 232 0) + 4) ((l1 * 6) + l2))) (pc := 105) (dec_at lsk_146 (k := 60) rfl) rfl ?_
    have g6 := h.1
    have h := h.2
    refine u_cvI (As := [iV l4, iV (u.1 ((u.2 232 0) + 4) ((l1 * 6) + l2))]) (rb := u.2 232 1) (st2 := [iV l3, iV (l2 + 1), iV l1, .ref 232]) (pc := 107) (dec_at lsk_146 (k := 61) rfl) m_11_155 (Or.inl rfl) rfl (Nat.le_of_ble_eq_true rfl) g6 me_75 rfl ?_ (fun _ _ h_ => h_)
    refine u_of me_75 (Nat.le_of_ble_eq_true rfl) ?_
    refine u_ld (v := .ref (u.2 232 1)) (pc := 0) (dec_at lsk_75 (k := 0) rfl) rfl ?_
    refine u_gS (o := 1) (p := (u.2 232 1) + 1) (pc := 1) (dec_at lsk_75 (k := 1) rfl) f_5_15 g6 rfl rfl ?_
    refine u_ld (v := iV l4) (pc := 4) (dec_at lsk_75 (k := 2) rfl) rfl ?_
    refine u_c (x := 10) (pc := 5) (dec_at lsk_75 (k := 3) rfl) rfl (by decide) ?_
    refine u_imul (pc := 7) (dec_at lsk_75 (k := 4) rfl) ?_
    refine u_ld (v := iV (u.1 ((u.2 232 0) + 4) ((l1 * 6) + l2))) (pc := 8) (dec_at lsk_75 (k := 5) rfl) rfl ?_
    refine u_iadd (pc := 9) (dec_at lsk_75 (k := 6) rfl) ?_
    have g7 := h.1
    have h := h.2
    have g8 := h.1
    have h := h.2
    refine u_iald (pc := 10) (dec_at lsk_75 (k := 7) rfl) (sa_5_2 g6) g7 g8 ?_
    refine u_rI (pc := 11) (dec_at lsk_75 (k := 8) rfl) rfl ?_
    refine u_ld (v := lV l5) (pc := 110) (dec_at lsk_146 (k := 62) rfl) rfl ?_
    refine u_cl (x := 1) (pc := 112) (dec_at lsk_146 (k := 63) rfl) rfl (by decide) ?_
    refine u_ladd (pc := 113) (dec_at lsk_146 (k := 64) rfl) ?_
    refine u_ld (v := iV l7) (pc := 114) (dec_at lsk_146 (k := 65) rfl) rfl ?_
    refine u_cvV (As := [iV l1, iV (l2 + 1), iV l3, iV (u.1 ((u.2 232 1) + 1) ((l4 * 10) + (u.1 ((u.2 232 0) + 4) ((l1 * 6) + l2)))), lV (l5 + 1), iV l7]) (rb := 232) (st2 := []) (pc := 116) (dec_at lsk_146 (k := 66) rfl) m_11_71 (Or.inl rfl) rfl (Nat.le_of_ble_eq_true rfl) sx_232 me_146 rfl h (fun u9 h => ?_)
    exact u_rV (pc := 119) (dec_at lsk_146 (k := 67) rfl) rfl h
  · have h := ifF e5 h
    refine u_ld (v := iV (u.1 ((u.2 232 0) + 4) ((l1 * 6) + l2))) (pc := 120) (dec_at lsk_146 (k := 68) rfl) rfl ?_
    refine u_c (x := 100) (pc := 122) (dec_at lsk_146 (k := 69) rfl) rfl (by decide) ?_
    refine u_isub (pc := 124) (dec_at lsk_146 (k := 70) rfl) ?_
    refine u_sto (lv' := [.ref 232, iV l1, iV l2, iV l3, iV l4, lV l5, .retAddr 0, iV l7, iV (u.1 ((u.2 232 0) + 4) ((l1 * 6) + l2)), iV ((u.1 ((u.2 232 0) + 4) ((l1 * 6) + l2)) - 100), .retAddr 0, .retAddr 0, .retAddr 0, .retAddr 0]) (pc := 125) (dec_at lsk_146 (k := 71) rfl) rfl ?_
    refine u_ld (v := .ref 232) (pc := 127) (dec_at lsk_146 (k := 72) rfl) rfl ?_
    refine u_gS (o := 15) (p := 247) (pc := 128) (dec_at lsk_146 (k := 73) rfl) f_11_40 sx_232 rfl rfl ?_
    refine u_ld (v := iV ((u.1 ((u.2 232 0) + 4) ((l1 * 6) + l2)) - 100)) (pc := 131) (dec_at lsk_146 (k := 74) rfl) rfl ?_
    refine u_ld (v := iV l4) (pc := 133) (dec_at lsk_146 (k := 75) rfl) rfl ?_
    refine u_csI (As := [iV ((u.1 ((u.2 232 0) + 4) ((l1 * 6) + l2)) - 100), iV l4]) (st2 := [.ref 247]) (pc := 135) (dec_at lsk_146 (k := 76) rfl) m_11_158 (Or.inr rfl) rfl (Nat.le_of_ble_eq_true rfl) ?_ (fun _ _ h_ => h_)
    refine u_of me_141 (Nat.le_of_ble_eq_true rfl) ?_
    refine u_ld (v := iV ((u.1 ((u.2 232 0) + 4) ((l1 * 6) + l2)) - 100)) (pc := 0) (dec_at lsk_141 (k := 0) rfl) rfl ?_
    refine u_c (x := 40) (pc := 1) (dec_at lsk_141 (k := 1) rfl) rfl (by decide) ?_
    refine u_imul (pc := 3) (dec_at lsk_141 (k := 2) rfl) ?_
    refine u_ld (v := iV l4) (pc := 4) (dec_at lsk_141 (k := 3) rfl) rfl ?_
    refine u_iadd (pc := 5) (dec_at lsk_141 (k := 4) rfl) ?_
    refine u_rI (pc := 6) (dec_at lsk_141 (k := 5) rfl) rfl ?_
    have g10 := h.1
    have h := h.2
    have g11 := h.1
    have h := h.2
    refine u_lald (pc := 138) (dec_at lsk_146 (k := 77) rfl) sx_247 g10 g11 ?_
    refine u_sto (lv' := [.ref 232, iV l1, iV l2, iV l3, iV l4, lV l5, .retAddr 0, iV l7, iV (u.1 ((u.2 232 0) + 4) ((l1 * 6) + l2)), iV ((u.1 ((u.2 232 0) + 4) ((l1 * 6) + l2)) - 100), lV (u.1 247 ((((u.1 ((u.2 232 0) + 4) ((l1 * 6) + l2)) - 100) * 40) + l4)), .retAddr 0, .retAddr 0, .retAddr 0]) (pc := 139) (dec_at lsk_146 (k := 78) rfl) rfl ?_
    exact u_weak (sbK (sbK (sbK (sbK (sbK (sbK (sbK (sbK (sbD (sbK (sbK (sbK (sbK (sbK sb0)))))))))))))) h
theorem k_146_141 {d : Nat} {Q : uS → Prop} {u : uS} {l1 l2 l3 l4 l5 l7 l9 l10 : Int} (h : (rL l10) ∧ (if l10 = 0 then (Q u) else ((0 ≤ (((l9 * (u.1 232 2)) + l4) * (u.1 232 2)) + (ntz l10)) ∧ (((((l9 * (u.1 232 2)) + l4) * (u.1 232 2)) + (ntz l10) < 16000) ∧ ((rI l7) ∧ ((rI (u.1 245 ((((l9 * (u.1 232 2)) + l4) * (u.1 232 2)) + (ntz l10)))) ∧ (cV (d + 2) 146 [.ref 232, iV l1, iV (l2 + 1), iV l3, iV (ntz l10), lV (l5 + (u.1 244 ((((l9 * (u.1 232 2)) + l4) * (u.1 232 2)) + (ntz l10)))), iV (max l7 (u.1 245 ((((l9 * (u.1 232 2)) + l4) * (u.1 232 2)) + (ntz l10))))] u (fun u7 => K_146 (d + 2) 141 [.ref 232, iV l1, iV l2, iV l3, iV l4, lV l5, .retAddr 0, iV l7, .retAddr 0, iV l9, lV (land l10 (l10 - 1)), .retAddr 0, .retAddr 0, .retAddr 0] [] u7 Q)))))))) : K_146 (d + 2) 141 [.ref 232, iV l1, iV l2, iV l3, iV l4, lV l5, .retAddr 0, iV l7, .retAddr 0, iV l9, lV l10, .retAddr 0, .retAddr 0, .retAddr 0] [] u Q := by
  unfold K_146
  refine u_ld (v := lV l10) (pc := 141) (dec_at lsk_146 (k := 79) rfl) rfl ?_
  refine u_cl (x := 0) (pc := 143) (dec_at lsk_146 (k := 80) rfl) rfl (by decide) ?_
  refine u_st (st' := [.int (lg_cmp (Int64.ofInt l10) (Int64.ofInt 0))]) (pc := 144) (dec_at lsk_146 (k := 81) rfl) rfl ?_
  have g1 := h.1
  have h := h.2
  refine u_ifT (pc := 145) (tgt := 212) (dec_at lsk_146 (k := 82) rfl) rfl (cl_eq g1 (by decide)) (fun e2 => ?_) (fun e2 => ?_)
  · have h := ifT e2 h
    exact u_rV (pc := 212) (dec_at lsk_146 (k := 119) rfl) rfl h
  · have h := ifF e2 h
    refine u_ld (v := lV l10) (pc := 148) (dec_at lsk_146 (k := 83) rfl) rfl ?_
    refine u_csI (As := [lV l10]) (st2 := []) (pc := 150) (dec_at lsk_146 (k := 84) rfl) m_11_161 (Or.inl rfl) rfl (Nat.le_of_ble_eq_true rfl) (p_77 ) (fun r_ u_ h_ => ?_)
    rw [h_.1, h_.2]
    refine u_sto (lv' := [.ref 232, iV l1, iV l2, iV l3, iV l4, lV l5, .retAddr 0, iV l7, .retAddr 0, iV l9, lV l10, .retAddr 0, iV (ntz l10), .retAddr 0]) (pc := 153) (dec_at lsk_146 (k := 85) rfl) rfl ?_
    refine u_ld (v := .ref 232) (pc := 155) (dec_at lsk_146 (k := 86) rfl) rfl ?_
    refine u_ld (v := iV l9) (pc := 156) (dec_at lsk_146 (k := 87) rfl) rfl ?_
    refine u_ld (v := iV l4) (pc := 158) (dec_at lsk_146 (k := 88) rfl) rfl ?_
    refine u_ld (v := iV (ntz l10)) (pc := 160) (dec_at lsk_146 (k := 89) rfl) rfl ?_
    refine u_cvI (As := [iV l9, iV l4, iV (ntz l10)]) (rb := 232) (st2 := []) (pc := 162) (dec_at lsk_146 (k := 90) rfl) m_11_136 (Or.inl rfl) rfl (Nat.le_of_ble_eq_true rfl) sx_232 me_147 rfl ?_ (fun _ _ h_ => h_)
    refine u_of me_147 (Nat.le_of_ble_eq_true rfl) ?_
    refine u_ld (v := iV l9) (pc := 0) (dec_at lsk_147 (k := 0) rfl) rfl ?_
    refine u_ld (v := .ref 232) (pc := 1) (dec_at lsk_147 (k := 1) rfl) rfl ?_
    refine u_gI (z := 2) (pc := 2) (dec_at lsk_147 (k := 2) rfl) f_11_25 sx_232 rfl rfl ?_
    refine u_imul (pc := 5) (dec_at lsk_147 (k := 3) rfl) ?_
    refine u_ld (v := iV l4) (pc := 6) (dec_at lsk_147 (k := 4) rfl) rfl ?_
    refine u_iadd (pc := 7) (dec_at lsk_147 (k := 5) rfl) ?_
    refine u_ld (v := .ref 232) (pc := 8) (dec_at lsk_147 (k := 6) rfl) rfl ?_
    refine u_gI (z := 2) (pc := 9) (dec_at lsk_147 (k := 7) rfl) f_11_25 sx_232 rfl rfl ?_
    refine u_imul (pc := 12) (dec_at lsk_147 (k := 8) rfl) ?_
    refine u_ld (v := iV (ntz l10)) (pc := 13) (dec_at lsk_147 (k := 9) rfl) rfl ?_
    refine u_iadd (pc := 14) (dec_at lsk_147 (k := 10) rfl) ?_
    refine u_rI (pc := 15) (dec_at lsk_147 (k := 11) rfl) rfl ?_
    refine u_sto (lv' := [.ref 232, iV l1, iV l2, iV l3, iV l4, lV l5, .retAddr 0, iV l7, .retAddr 0, iV l9, lV l10, .retAddr 0, iV (ntz l10), iV ((((l9 * (u.1 232 2)) + l4) * (u.1 232 2)) + (ntz l10))]) (pc := 165) (dec_at lsk_146 (k := 91) rfl) rfl ?_
    refine u_ld (v := .ref 232) (pc := 167) (dec_at lsk_146 (k := 92) rfl) rfl ?_
    refine u_ld (v := iV l1) (pc := 168) (dec_at lsk_146 (k := 93) rfl) rfl ?_
    refine u_ld (v := iV l2) (pc := 169) (dec_at lsk_146 (k := 94) rfl) rfl ?_
    refine u_ld (v := iV 1) (pc := 170) (dec_at lsk_146 (k := 95) rfl) rfl ?_
    refine u_iadd (pc := 171) (dec_at lsk_146 (k := 96) rfl) ?_
    refine u_ld (v := iV l3) (pc := 172) (dec_at lsk_146 (k := 97) rfl) rfl ?_
    refine u_ld (v := iV (ntz l10)) (pc := 173) (dec_at lsk_146 (k := 98) rfl) rfl ?_
    refine u_ld (v := lV l5) (pc := 175) (dec_at lsk_146 (k := 99) rfl) rfl ?_
    refine u_ld (v := .ref 232) (pc := 177) (dec_at lsk_146 (k := 100) rfl) rfl ?_
    refine u_gS (o := 12) (p := 244) (pc := 178) (dec_at lsk_146 (k := 101) rfl) f_11_29 sx_232 rfl rfl ?_
    refine u_ld (v := iV ((((l9 * (u.1 232 2)) + l4) * (u.1 232 2)) + (ntz l10))) (pc := 181) (dec_at lsk_146 (k := 102) rfl) rfl ?_
    have g3 := h.1
    have h := h.2
    have g4 := h.1
    have h := h.2
    refine u_lald (pc := 183) (dec_at lsk_146 (k := 103) rfl) sx_244 g3 g4 ?_
    refine u_ladd (pc := 184) (dec_at lsk_146 (k := 104) rfl) ?_
    refine u_ld (v := iV l7) (pc := 185) (dec_at lsk_146 (k := 105) rfl) rfl ?_
    refine u_ld (v := .ref 232) (pc := 187) (dec_at lsk_146 (k := 106) rfl) rfl ?_
    refine u_gS (o := 13) (p := 245) (pc := 188) (dec_at lsk_146 (k := 107) rfl) f_11_33 sx_232 rfl rfl ?_
    refine u_ld (v := iV ((((l9 * (u.1 232 2)) + l4) * (u.1 232 2)) + (ntz l10))) (pc := 191) (dec_at lsk_146 (k := 108) rfl) rfl ?_
    refine u_iald (pc := 193) (dec_at lsk_146 (k := 109) rfl) sx_245 g3 g4 ?_
    have g5 := h.1
    have h := h.2
    have g6 := h.1
    have h := h.2
    refine u_max (pc := 194) (dec_at lsk_146 (k := 110) rfl) m_11_100 g5 g6 (Nat.le_of_ble_eq_true rfl) ?_
    refine u_cvV (As := [iV l1, iV (l2 + 1), iV l3, iV (ntz l10), lV (l5 + (u.1 244 ((((l9 * (u.1 232 2)) + l4) * (u.1 232 2)) + (ntz l10)))), iV (max l7 (u.1 245 ((((l9 * (u.1 232 2)) + l4) * (u.1 232 2)) + (ntz l10))))]) (rb := 232) (st2 := []) (pc := 197) (dec_at lsk_146 (k := 111) rfl) m_11_71 (Or.inl rfl) rfl (Nat.le_of_ble_eq_true rfl) sx_232 me_146 rfl h (fun u7 h => ?_)
    refine u_ld (v := lV l10) (pc := 200) (dec_at lsk_146 (k := 112) rfl) rfl ?_
    refine u_ld (v := lV l10) (pc := 202) (dec_at lsk_146 (k := 113) rfl) rfl ?_
    refine u_cl (x := 1) (pc := 204) (dec_at lsk_146 (k := 114) rfl) rfl (by decide) ?_
    refine u_lsub (pc := 205) (dec_at lsk_146 (k := 115) rfl) ?_
    refine u_land (pc := 206) (dec_at lsk_146 (k := 116) rfl) ?_
    refine u_sto (lv' := [.ref 232, iV l1, iV l2, iV l3, iV l4, lV l5, .retAddr 0, iV l7, .retAddr 0, iV l9, lV (land l10 (l10 - 1)), .retAddr 0, iV (ntz l10), iV ((((l9 * (u.1 232 2)) + l4) * (u.1 232 2)) + (ntz l10))]) (pc := 207) (dec_at lsk_146 (k := 117) rfl) rfl ?_
    refine u_goto (pc := 209) (tgt := 141) (dec_at lsk_146 (k := 118) rfl) rfl ?_
    exact u_weak (sbK (sbK (sbK (sbK (sbK (sbK (sbK (sbK (sbK (sbK (sbK (sbK (sbD (sbD sb0)))))))))))))) h
/-- method 148 -/
def K_148 (d pc : Nat) (lv : ev_L) (st : List Value) (u : uS) (Q : uS → Prop) : Prop := okU d 11 6 false none prog_9_method_15_code (qV Q) pc lv st u
theorem e_148 {d : Nat} {Q : uS → Prop} {u : uS} {l1 l2 l4 : Int} (h : (rI l1) ∧ ((rI (u.1 232 2)) ∧ (((u.1 232 2) ≠ 0) ∧ ((rI (l1.tdiv (u.1 232 2))) ∧ ((0 ≤ (((l1.tdiv (u.1 232 2)).tdiv (u.1 232 2)) * 40) + ((l1.tdiv (u.1 232 2)).tmod (u.1 232 2))) ∧ (((((l1.tdiv (u.1 232 2)).tdiv (u.1 232 2)) * 40) + ((l1.tdiv (u.1 232 2)).tmod (u.1 232 2)) < 400) ∧ (if land (lushr (u.1 247 ((((l1.tdiv (u.1 232 2)).tdiv (u.1 232 2)) * 40) + ((l1.tdiv (u.1 232 2)).tmod (u.1 232 2)))) (l1.tmod (u.1 232 2))) 1 = 0 then ((0 ≤ l1) ∧ ((l1 < 16000) ∧ ((rI ((u.1 249 l1) - 1)) ∧ (if (u.1 249 l1) - 1 < 0 then (∀ u12 : uS, u12 = wr u 232 11 ((u.1 232 11) + 1) → (∀ u14 : uS, u14 = wr u12 244 l1 l2 → (∀ u16 : uS, u16 = wr u14 245 l1 l4 → (cV (d + 1) 152 [.ref 232, iV l1, iV (u.1 232 11)] u16 (fun u18 => Q u18))))) else ((rL l2) ∧ ((rL (u.1 244 l1)) ∧ (if u.1 244 l1 < l2 then (Q u) else (if l2 = u.1 244 l1 then ((rI l4) ∧ ((rI (u.1 245 l1)) ∧ (if l4 < u.1 245 l1 then (∀ u26 : uS, u26 = wr u 244 l1 l2 → (∀ u28 : uS, u28 = wr u26 245 l1 l4 → (cV (d + 1) 152 [.ref 232, iV l1, iV ((u.1 249 l1) - 1)] u28 (fun u30 => Q u30)))) else (Q u)))) else (∀ u31 : uS, u31 = wr u 244 l1 l2 → (∀ u33 : uS, u33 = wr u31 245 l1 l4 → (cV (d + 1) 152 [.ref 232, iV l1, iV ((u.1 249 l1) - 1)] u33 (fun u35 => Q u35)))))))))))) else (Q u)))))))) : cV (d + 2) 148 [.ref 232, iV l1, lV l2, iV l4] u Q := by
  refine u_of me_148 (Nat.le_of_ble_eq_true rfl) ?_
  refine u_ld (v := .ref 232) (pc := 0) (dec_at lsk_148 (k := 0) rfl) rfl ?_
  refine u_gS (o := 15) (p := 247) (pc := 1) (dec_at lsk_148 (k := 1) rfl) f_11_40 sx_232 rfl rfl ?_
  refine u_ld (v := .ref 232) (pc := 4) (dec_at lsk_148 (k := 2) rfl) rfl ?_
  refine u_ld (v := iV l1) (pc := 5) (dec_at lsk_148 (k := 3) rfl) rfl ?_
  refine u_cvI (As := [iV l1]) (rb := 232) (st2 := [.ref 247]) (pc := 6) (dec_at lsk_148 (k := 4) rfl) m_11_167 (Or.inl rfl) rfl (Nat.le_of_ble_eq_true rfl) sx_232 me_149 rfl ?_ (fun _ _ h_ => h_)
  refine u_of me_149 (Nat.le_of_ble_eq_true rfl) ?_
  refine u_ld (v := iV l1) (pc := 0) (dec_at lsk_149 (k := 0) rfl) rfl ?_
  refine u_ld (v := .ref 232) (pc := 1) (dec_at lsk_149 (k := 1) rfl) rfl ?_
  refine u_gI (z := 2) (pc := 2) (dec_at lsk_149 (k := 2) rfl) f_11_25 sx_232 rfl rfl ?_
  have g1 := h.1
  have h := h.2
  have g2 := h.1
  have h := h.2
  have g3 := h.1
  have h := h.2
  refine u_idiv (pc := 5) (dec_at lsk_149 (k := 3) rfl) g1 g2 g3 ?_
  refine u_ld (v := .ref 232) (pc := 6) (dec_at lsk_149 (k := 4) rfl) rfl ?_
  refine u_gI (z := 2) (pc := 7) (dec_at lsk_149 (k := 5) rfl) f_11_25 sx_232 rfl rfl ?_
  have g4 := h.1
  have h := h.2
  refine u_idiv (pc := 10) (dec_at lsk_149 (k := 6) rfl) g4 g2 g3 ?_
  refine u_rI (pc := 11) (dec_at lsk_149 (k := 7) rfl) rfl ?_
  refine u_ld (v := .ref 232) (pc := 9) (dec_at lsk_148 (k := 5) rfl) rfl ?_
  refine u_ld (v := iV l1) (pc := 10) (dec_at lsk_148 (k := 6) rfl) rfl ?_
  refine u_cvI (As := [iV l1]) (rb := 232) (st2 := [iV ((l1.tdiv (u.1 232 2)).tdiv (u.1 232 2)), .ref 247]) (pc := 11) (dec_at lsk_148 (k := 7) rfl) m_11_171 (Or.inl rfl) rfl (Nat.le_of_ble_eq_true rfl) sx_232 me_150 rfl ?_ (fun _ _ h_ => h_)
  refine u_of me_150 (Nat.le_of_ble_eq_true rfl) ?_
  refine u_ld (v := iV l1) (pc := 0) (dec_at lsk_150 (k := 0) rfl) rfl ?_
  refine u_ld (v := .ref 232) (pc := 1) (dec_at lsk_150 (k := 1) rfl) rfl ?_
  refine u_gI (z := 2) (pc := 2) (dec_at lsk_150 (k := 2) rfl) f_11_25 sx_232 rfl rfl ?_
  refine u_idiv (pc := 5) (dec_at lsk_150 (k := 3) rfl) g1 g2 g3 ?_
  refine u_ld (v := .ref 232) (pc := 6) (dec_at lsk_150 (k := 4) rfl) rfl ?_
  refine u_gI (z := 2) (pc := 7) (dec_at lsk_150 (k := 5) rfl) f_11_25 sx_232 rfl rfl ?_
  refine u_irem (pc := 10) (dec_at lsk_150 (k := 6) rfl) g4 g2 g3 ?_
  refine u_rI (pc := 11) (dec_at lsk_150 (k := 7) rfl) rfl ?_
  refine u_csI (As := [iV ((l1.tdiv (u.1 232 2)).tdiv (u.1 232 2)), iV ((l1.tdiv (u.1 232 2)).tmod (u.1 232 2))]) (st2 := [.ref 247]) (pc := 14) (dec_at lsk_148 (k := 8) rfl) m_11_158 (Or.inr rfl) rfl (Nat.le_of_ble_eq_true rfl) ?_ (fun _ _ h_ => h_)
  refine u_of me_141 (Nat.le_of_ble_eq_true rfl) ?_
  refine u_ld (v := iV ((l1.tdiv (u.1 232 2)).tdiv (u.1 232 2))) (pc := 0) (dec_at lsk_141 (k := 0) rfl) rfl ?_
  refine u_c (x := 40) (pc := 1) (dec_at lsk_141 (k := 1) rfl) rfl (by decide) ?_
  refine u_imul (pc := 3) (dec_at lsk_141 (k := 2) rfl) ?_
  refine u_ld (v := iV ((l1.tdiv (u.1 232 2)).tmod (u.1 232 2))) (pc := 4) (dec_at lsk_141 (k := 3) rfl) rfl ?_
  refine u_iadd (pc := 5) (dec_at lsk_141 (k := 4) rfl) ?_
  refine u_rI (pc := 6) (dec_at lsk_141 (k := 5) rfl) rfl ?_
  have g5 := h.1
  have h := h.2
  have g6 := h.1
  have h := h.2
  refine u_lald (pc := 17) (dec_at lsk_148 (k := 9) rfl) sx_247 g5 g6 ?_
  refine u_ld (v := .ref 232) (pc := 18) (dec_at lsk_148 (k := 10) rfl) rfl ?_
  refine u_ld (v := iV l1) (pc := 19) (dec_at lsk_148 (k := 11) rfl) rfl ?_
  refine u_cvI (As := [iV l1]) (rb := 232) (st2 := [lV (u.1 247 ((((l1.tdiv (u.1 232 2)).tdiv (u.1 232 2)) * 40) + ((l1.tdiv (u.1 232 2)).tmod (u.1 232 2))))]) (pc := 20) (dec_at lsk_148 (k := 12) rfl) m_11_174 (Or.inl rfl) rfl (Nat.le_of_ble_eq_true rfl) sx_232 me_151 rfl ?_ (fun _ _ h_ => h_)
  refine u_of me_151 (Nat.le_of_ble_eq_true rfl) ?_
  refine u_ld (v := iV l1) (pc := 0) (dec_at lsk_151 (k := 0) rfl) rfl ?_
  refine u_ld (v := .ref 232) (pc := 1) (dec_at lsk_151 (k := 1) rfl) rfl ?_
  refine u_gI (z := 2) (pc := 2) (dec_at lsk_151 (k := 2) rfl) f_11_25 sx_232 rfl rfl ?_
  refine u_irem (pc := 5) (dec_at lsk_151 (k := 3) rfl) g1 g2 g3 ?_
  refine u_rI (pc := 6) (dec_at lsk_151 (k := 4) rfl) rfl ?_
  refine u_lushr (pc := 23) (dec_at lsk_148 (k := 13) rfl) ?_
  refine u_cl (x := 1) (pc := 24) (dec_at lsk_148 (k := 14) rfl) rfl (by decide) ?_
  refine u_land (pc := 25) (dec_at lsk_148 (k := 15) rfl) ?_
  refine u_cl (x := 0) (pc := 26) (dec_at lsk_148 (k := 16) rfl) rfl (by decide) ?_
  refine u_st (st' := [.int (lg_cmp (Int64.ofInt (land (lushr (u.1 247 ((((l1.tdiv (u.1 232 2)).tdiv (u.1 232 2)) * 40) + ((l1.tdiv (u.1 232 2)).tmod (u.1 232 2)))) (l1.tmod (u.1 232 2))) 1)) (Int64.ofInt 0))]) (pc := 27) (dec_at lsk_148 (k := 17) rfl) rfl ?_
  refine u_ifT (pc := 28) (tgt := 32) (dec_at lsk_148 (k := 18) rfl) rfl (cl_eq (rl_toInt _) (by decide)) (fun e7 => ?_) (fun e7 => ?_)
  · have h := ifT e7 h
    refine u_ld (v := .ref 232) (pc := 32) (dec_at lsk_148 (k := 20) rfl) rfl ?_
    refine u_gS (o := 17) (p := 249) (pc := 33) (dec_at lsk_148 (k := 21) rfl) f_11_46 sx_232 rfl rfl ?_
    refine u_ld (v := iV l1) (pc := 36) (dec_at lsk_148 (k := 22) rfl) rfl ?_
    have g8 := h.1
    have h := h.2
    have g9 := h.1
    have h := h.2
    refine u_iald (pc := 37) (dec_at lsk_148 (k := 23) rfl) sx_249 g8 g9 ?_
    refine u_ld (v := iV 1) (pc := 38) (dec_at lsk_148 (k := 24) rfl) rfl ?_
    refine u_isub (pc := 39) (dec_at lsk_148 (k := 25) rfl) ?_
    refine u_sto (lv' := [.ref 232, iV l1, lV l2, .retAddr 0, iV l4, iV ((u.1 249 l1) - 1)]) (pc := 40) (dec_at lsk_148 (k := 26) rfl) rfl ?_
    refine u_ld (v := iV ((u.1 249 l1) - 1)) (pc := 42) (dec_at lsk_148 (k := 27) rfl) rfl ?_
    have g10 := h.1
    have h := h.2
    refine u_ifF (pc := 44) (tgt := 66) (dec_at lsk_148 (k := 28) rfl) rfl (c0_ge g10) (fun e11 => ?_) (fun e11 => ?_)
    · have h := ifT e11 h
      refine u_ld (v := .ref 232) (pc := 47) (dec_at lsk_148 (k := 29) rfl) rfl ?_
      refine u_gI (z := 11) (pc := 48) (dec_at lsk_148 (k := 30) rfl) f_11_75 sx_232 rfl rfl ?_
      refine u_sto (lv' := [.ref 232, iV l1, lV l2, .retAddr 0, iV l4, iV (u.1 232 11)]) (pc := 51) (dec_at lsk_148 (k := 31) rfl) rfl ?_
      refine u_ld (v := .ref 232) (pc := 53) (dec_at lsk_148 (k := 32) rfl) rfl ?_
      refine u_ld (v := .ref 232) (pc := 54) (dec_at lsk_148 (k := 33) rfl) rfl ?_
      refine u_gI (z := 11) (pc := 55) (dec_at lsk_148 (k := 34) rfl) f_11_75 sx_232 rfl rfl ?_
      refine u_ld (v := iV 1) (pc := 58) (dec_at lsk_148 (k := 35) rfl) rfl ?_
      refine u_iadd (pc := 59) (dec_at lsk_148 (k := 36) rfl) ?_
      refine u_pI (z := 11) (pc := 60) (dec_at lsk_148 (k := 37) rfl) f_11_75 sx_232 rfl rfl rfl rfl (fun u12 e13 => ?_)
      have h := h u12 e13
      refine u_goto (pc := 63) (tgt := 100) (dec_at lsk_148 (k := 38) rfl) rfl ?_
      refine u_ld (v := .ref 232) (pc := 100) (dec_at lsk_148 (k := 60) rfl) rfl ?_
      refine u_gS (o := 12) (p := 244) (pc := 101) (dec_at lsk_148 (k := 61) rfl) f_11_29 sx_232 rfl rfl ?_
      refine u_ld (v := iV l1) (pc := 104) (dec_at lsk_148 (k := 62) rfl) rfl ?_
      refine u_ld (v := lV l2) (pc := 105) (dec_at lsk_148 (k := 63) rfl) rfl ?_
      refine u_last (pc := 106) (dec_at lsk_148 (k := 64) rfl) sx_244 g8 g9 (fun u14 e15 => ?_)
      have h := h u14 e15
      refine u_ld (v := .ref 232) (pc := 107) (dec_at lsk_148 (k := 65) rfl) rfl ?_
      refine u_gS (o := 13) (p := 245) (pc := 108) (dec_at lsk_148 (k := 66) rfl) f_11_33 sx_232 rfl rfl ?_
      refine u_ld (v := iV l1) (pc := 111) (dec_at lsk_148 (k := 67) rfl) rfl ?_
      refine u_ld (v := iV l4) (pc := 112) (dec_at lsk_148 (k := 68) rfl) rfl ?_
      refine u_iast (pc := 114) (dec_at lsk_148 (k := 69) rfl) sx_245 g8 g9 (fun u16 e17 => ?_)
      have h := h u16 e17
      refine u_ld (v := .ref 232) (pc := 115) (dec_at lsk_148 (k := 70) rfl) rfl ?_
      refine u_ld (v := iV l1) (pc := 116) (dec_at lsk_148 (k := 71) rfl) rfl ?_
      refine u_ld (v := iV (u.1 232 11)) (pc := 117) (dec_at lsk_148 (k := 72) rfl) rfl ?_
      refine u_cvV (As := [iV l1, iV (u.1 232 11)]) (rb := 232) (st2 := []) (pc := 119) (dec_at lsk_148 (k := 73) rfl) m_11_181 (Or.inl rfl) rfl (Nat.le_of_ble_eq_true rfl) sx_232 me_152 rfl h (fun u18 h => ?_)
      exact u_rV (pc := 122) (dec_at lsk_148 (k := 74) rfl) rfl h
    · have h := ifF e11 h
      refine u_ld (v := lV l2) (pc := 66) (dec_at lsk_148 (k := 39) rfl) rfl ?_
      refine u_ld (v := .ref 232) (pc := 67) (dec_at lsk_148 (k := 40) rfl) rfl ?_
      refine u_gS (o := 12) (p := 244) (pc := 68) (dec_at lsk_148 (k := 41) rfl) f_11_29 sx_232 rfl rfl ?_
      refine u_ld (v := iV l1) (pc := 71) (dec_at lsk_148 (k := 42) rfl) rfl ?_
      refine u_lald (pc := 72) (dec_at lsk_148 (k := 43) rfl) sx_244 g8 g9 ?_
      refine u_st (st' := [.int (lg_cmp (Int64.ofInt l2) (Int64.ofInt (u.1 244 l1)))]) (pc := 73) (dec_at lsk_148 (k := 44) rfl) rfl ?_
      have g19 := h.1
      have h := h.2
      have g20 := h.1
      have h := h.2
      refine u_ifT (pc := 74) (tgt := 99) (dec_at lsk_148 (k := 45) rfl) rfl (cl_gt g19 g20) (fun e21 => ?_) (fun e21 => ?_)
      · have h := ifT e21 h
        exact u_rV (pc := 99) (dec_at lsk_148 (k := 59) rfl) rfl h
      · have h := ifF e21 h
        refine u_ld (v := lV l2) (pc := 77) (dec_at lsk_148 (k := 46) rfl) rfl ?_
        refine u_ld (v := .ref 232) (pc := 78) (dec_at lsk_148 (k := 47) rfl) rfl ?_
        refine u_gS (o := 12) (p := 244) (pc := 79) (dec_at lsk_148 (k := 48) rfl) f_11_29 sx_232 rfl rfl ?_
        refine u_ld (v := iV l1) (pc := 82) (dec_at lsk_148 (k := 49) rfl) rfl ?_
        refine u_lald (pc := 83) (dec_at lsk_148 (k := 50) rfl) sx_244 g8 g9 ?_
        refine u_st (st' := [.int (lg_cmp (Int64.ofInt l2) (Int64.ofInt (u.1 244 l1)))]) (pc := 84) (dec_at lsk_148 (k := 51) rfl) rfl ?_
        refine u_ifF (pc := 85) (tgt := 100) (dec_at lsk_148 (k := 52) rfl) rfl (cl_ne g19 g20) (fun e22 => ?_) (fun e22 => ?_)
        · have h := ifT e22 h
          refine u_ld (v := iV l4) (pc := 88) (dec_at lsk_148 (k := 53) rfl) rfl ?_
          refine u_ld (v := .ref 232) (pc := 90) (dec_at lsk_148 (k := 54) rfl) rfl ?_
          refine u_gS (o := 13) (p := 245) (pc := 91) (dec_at lsk_148 (k := 55) rfl) f_11_33 sx_232 rfl rfl ?_
          refine u_ld (v := iV l1) (pc := 94) (dec_at lsk_148 (k := 56) rfl) rfl ?_
          refine u_iald (pc := 95) (dec_at lsk_148 (k := 57) rfl) sx_245 g8 g9 ?_
          have g23 := h.1
          have h := h.2
          have g24 := h.1
          have h := h.2
          refine u_icT (pc := 96) (tgt := 100) (dec_at lsk_148 (k := 58) rfl) rfl (ci_lt g23 g24) (fun e25 => ?_) (fun e25 => ?_)
          · have h := ifT e25 h
            refine u_ld (v := .ref 232) (pc := 100) (dec_at lsk_148 (k := 60) rfl) rfl ?_
            refine u_gS (o := 12) (p := 244) (pc := 101) (dec_at lsk_148 (k := 61) rfl) f_11_29 sx_232 rfl rfl ?_
            refine u_ld (v := iV l1) (pc := 104) (dec_at lsk_148 (k := 62) rfl) rfl ?_
            refine u_ld (v := lV l2) (pc := 105) (dec_at lsk_148 (k := 63) rfl) rfl ?_
            refine u_last (pc := 106) (dec_at lsk_148 (k := 64) rfl) sx_244 g8 g9 (fun u26 e27 => ?_)
            have h := h u26 e27
            refine u_ld (v := .ref 232) (pc := 107) (dec_at lsk_148 (k := 65) rfl) rfl ?_
            refine u_gS (o := 13) (p := 245) (pc := 108) (dec_at lsk_148 (k := 66) rfl) f_11_33 sx_232 rfl rfl ?_
            refine u_ld (v := iV l1) (pc := 111) (dec_at lsk_148 (k := 67) rfl) rfl ?_
            refine u_ld (v := iV l4) (pc := 112) (dec_at lsk_148 (k := 68) rfl) rfl ?_
            refine u_iast (pc := 114) (dec_at lsk_148 (k := 69) rfl) sx_245 g8 g9 (fun u28 e29 => ?_)
            have h := h u28 e29
            refine u_ld (v := .ref 232) (pc := 115) (dec_at lsk_148 (k := 70) rfl) rfl ?_
            refine u_ld (v := iV l1) (pc := 116) (dec_at lsk_148 (k := 71) rfl) rfl ?_
            refine u_ld (v := iV ((u.1 249 l1) - 1)) (pc := 117) (dec_at lsk_148 (k := 72) rfl) rfl ?_
            refine u_cvV (As := [iV l1, iV ((u.1 249 l1) - 1)]) (rb := 232) (st2 := []) (pc := 119) (dec_at lsk_148 (k := 73) rfl) m_11_181 (Or.inl rfl) rfl (Nat.le_of_ble_eq_true rfl) sx_232 me_152 rfl h (fun u30 h => ?_)
            exact u_rV (pc := 122) (dec_at lsk_148 (k := 74) rfl) rfl h
          · have h := ifF e25 h
            exact u_rV (pc := 99) (dec_at lsk_148 (k := 59) rfl) rfl h
        · have h := ifF e22 h
          refine u_ld (v := .ref 232) (pc := 100) (dec_at lsk_148 (k := 60) rfl) rfl ?_
          refine u_gS (o := 12) (p := 244) (pc := 101) (dec_at lsk_148 (k := 61) rfl) f_11_29 sx_232 rfl rfl ?_
          refine u_ld (v := iV l1) (pc := 104) (dec_at lsk_148 (k := 62) rfl) rfl ?_
          refine u_ld (v := lV l2) (pc := 105) (dec_at lsk_148 (k := 63) rfl) rfl ?_
          refine u_last (pc := 106) (dec_at lsk_148 (k := 64) rfl) sx_244 g8 g9 (fun u31 e32 => ?_)
          have h := h u31 e32
          refine u_ld (v := .ref 232) (pc := 107) (dec_at lsk_148 (k := 65) rfl) rfl ?_
          refine u_gS (o := 13) (p := 245) (pc := 108) (dec_at lsk_148 (k := 66) rfl) f_11_33 sx_232 rfl rfl ?_
          refine u_ld (v := iV l1) (pc := 111) (dec_at lsk_148 (k := 67) rfl) rfl ?_
          refine u_ld (v := iV l4) (pc := 112) (dec_at lsk_148 (k := 68) rfl) rfl ?_
          refine u_iast (pc := 114) (dec_at lsk_148 (k := 69) rfl) sx_245 g8 g9 (fun u33 e34 => ?_)
          have h := h u33 e34
          refine u_ld (v := .ref 232) (pc := 115) (dec_at lsk_148 (k := 70) rfl) rfl ?_
          refine u_ld (v := iV l1) (pc := 116) (dec_at lsk_148 (k := 71) rfl) rfl ?_
          refine u_ld (v := iV ((u.1 249 l1) - 1)) (pc := 117) (dec_at lsk_148 (k := 72) rfl) rfl ?_
          refine u_cvV (As := [iV l1, iV ((u.1 249 l1) - 1)]) (rb := 232) (st2 := []) (pc := 119) (dec_at lsk_148 (k := 73) rfl) m_11_181 (Or.inl rfl) rfl (Nat.le_of_ble_eq_true rfl) sx_232 me_152 rfl h (fun u35 h => ?_)
          exact u_rV (pc := 122) (dec_at lsk_148 (k := 74) rfl) rfl h
  · have h := ifF e7 h
    exact u_rV (pc := 31) (dec_at lsk_148 (k := 19) rfl) rfl h
/-- method 152 -/
def K_152 (d pc : Nat) (lv : ev_L) (st : List Value) (u : uS) (Q : uS → Prop) : Prop := okU d 11 5 false none prog_9_method_17_code (qV Q) pc lv st u
theorem e_152 {d : Nat} {Q : uS → Prop} {u : uS} {l1 l2 : Int} (h : (rI (l2 - 1)) ∧ (K_152 (d + 1) 9 [.ref 232, iV l1, .retAddr 0, iV l2, iV ((l2 - 1).tdiv 2)] [] u Q)) : cV (d + 2) 152 [.ref 232, iV l1, iV l2] u Q := by
  refine u_of me_152 (Nat.le_of_ble_eq_true rfl) ?_
  refine u_ld (v := iV l2) (pc := 0) (dec_at lsk_152 (k := 0) rfl) rfl ?_
  refine u_sto (lv' := [.ref 232, iV l1, iV l2, iV l2, .retAddr 0]) (pc := 1) (dec_at lsk_152 (k := 1) rfl) rfl ?_
  refine u_ld (v := iV l2) (pc := 2) (dec_at lsk_152 (k := 2) rfl) rfl ?_
  refine u_ld (v := iV 1) (pc := 3) (dec_at lsk_152 (k := 3) rfl) rfl ?_
  refine u_isub (pc := 4) (dec_at lsk_152 (k := 4) rfl) ?_
  refine u_ld (v := iV 2) (pc := 5) (dec_at lsk_152 (k := 5) rfl) rfl ?_
  have g1 := h.1
  have h := h.2
  refine u_idiv (pc := 6) (dec_at lsk_152 (k := 6) rfl) g1 (by decide) (by decide) ?_
  refine u_sto (lv' := [.ref 232, iV l1, iV l2, iV l2, iV ((l2 - 1).tdiv 2)]) (pc := 7) (dec_at lsk_152 (k := 7) rfl) rfl ?_
  exact u_weak (sbK (sbK (sbD (sbK (sbK sb0))))) h
theorem k_152_9 {d : Nat} {Q : uS → Prop} {u : uS} {l1 l3 l4 : Int} (h : (rI l3) ∧ (if 0 < l3 then ((0 ≤ l4) ∧ ((l4 < 16000) ∧ (cI (d + 1) 153 [.ref 232, iV l1, iV (u.1 248 l4)] u (fun r6 u5 => (rI r6) ∧ (if r6 = 0 then ((0 ≤ l3) ∧ ((l3 < 16000) ∧ (∀ u11 : uS, u11 = wr u5 248 l3 l1 → ((0 ≤ l1) ∧ ((l1 < 16000) ∧ (∀ u15 : uS, u15 = wr u11 249 l1 (l3 + 1) → (Q u15))))))) else ((0 ≤ l3) ∧ ((l3 < 16000) ∧ (∀ u19 : uS, u19 = wr u5 248 l3 (u5.1 248 l4) → ((0 ≤ u5.1 248 l4) ∧ ((u5.1 248 l4 < 16000) ∧ (∀ u23 : uS, u23 = wr u19 249 (u5.1 248 l4) (l3 + 1) → ((rI (l4 - 1)) ∧ (K_152 (d + 1) 9 [.ref 232, iV l1, .retAddr 0, iV l4, iV ((l4 - 1).tdiv 2)] [] u23 Q))))))))))))) else ((0 ≤ l3) ∧ ((l3 < 16000) ∧ (∀ u28 : uS, u28 = wr u 248 l3 l1 → ((0 ≤ l1) ∧ ((l1 < 16000) ∧ (∀ u32 : uS, u32 = wr u28 249 l1 (l3 + 1) → (Q u32))))))))) : K_152 (d + 1) 9 [.ref 232, iV l1, .retAddr 0, iV l3, iV l4] [] u Q := by
  unfold K_152
  refine u_ld (v := iV l3) (pc := 9) (dec_at lsk_152 (k := 8) rfl) rfl ?_
  have g1 := h.1
  have h := h.2
  refine u_ifF (pc := 10) (tgt := 53) (dec_at lsk_152 (k := 9) rfl) rfl (c0_le g1) (fun e2 => ?_) (fun e2 => ?_)
  · have h := ifT e2 h
    refine u_ld (v := .ref 232) (pc := 13) (dec_at lsk_152 (k := 10) rfl) rfl ?_
    refine u_ld (v := iV l1) (pc := 14) (dec_at lsk_152 (k := 11) rfl) rfl ?_
    refine u_ld (v := .ref 232) (pc := 15) (dec_at lsk_152 (k := 12) rfl) rfl ?_
    refine u_gS (o := 16) (p := 248) (pc := 16) (dec_at lsk_152 (k := 13) rfl) f_11_43 sx_232 rfl rfl ?_
    refine u_ld (v := iV l4) (pc := 19) (dec_at lsk_152 (k := 14) rfl) rfl ?_
    have g3 := h.1
    have h := h.2
    have g4 := h.1
    have h := h.2
    refine u_iald (pc := 21) (dec_at lsk_152 (k := 15) rfl) sx_248 g3 g4 ?_
    refine u_cvI (As := [iV l1, iV (u.1 248 l4)]) (rb := 232) (st2 := []) (pc := 22) (dec_at lsk_152 (k := 16) rfl) m_11_185 (Or.inl rfl) rfl (Nat.le_of_ble_eq_true rfl) sx_232 me_153 rfl h (fun r6 u5 h => ?_)
    have g7 := h.1
    have h := h.2
    refine u_ifT (pc := 25) (tgt := 53) (dec_at lsk_152 (k := 17) rfl) rfl (c0_eq g7) (fun e8 => ?_) (fun e8 => ?_)
    · have h := ifT e8 h
      refine u_ld (v := .ref 232) (pc := 53) (dec_at lsk_152 (k := 34) rfl) rfl ?_
      refine u_ld (v := iV l1) (pc := 54) (dec_at lsk_152 (k := 35) rfl) rfl ?_
      refine u_ld (v := iV l3) (pc := 55) (dec_at lsk_152 (k := 36) rfl) rfl ?_
      refine u_cvV (As := [iV l1, iV l3]) (rb := 232) (st2 := []) (pc := 56) (dec_at lsk_152 (k := 37) rfl) m_11_189 (Or.inl rfl) rfl (Nat.le_of_ble_eq_true rfl) sx_232 me_154 rfl ?_ (fun _ h_ => h_)
      refine u_of me_154 (Nat.le_of_ble_eq_true rfl) ?_
      refine u_ld (v := .ref 232) (pc := 0) (dec_at lsk_154 (k := 0) rfl) rfl ?_
      refine u_gS (o := 16) (p := 248) (pc := 1) (dec_at lsk_154 (k := 1) rfl) f_11_43 sx_232 rfl rfl ?_
      refine u_ld (v := iV l3) (pc := 4) (dec_at lsk_154 (k := 2) rfl) rfl ?_
      refine u_ld (v := iV l1) (pc := 5) (dec_at lsk_154 (k := 3) rfl) rfl ?_
      have g9 := h.1
      have h := h.2
      have g10 := h.1
      have h := h.2
      refine u_iast (pc := 6) (dec_at lsk_154 (k := 4) rfl) sx_248 g9 g10 (fun u11 e12 => ?_)
      have h := h u11 e12
      refine u_ld (v := .ref 232) (pc := 7) (dec_at lsk_154 (k := 5) rfl) rfl ?_
      refine u_gS (o := 17) (p := 249) (pc := 8) (dec_at lsk_154 (k := 6) rfl) f_11_46 sx_232 rfl rfl ?_
      refine u_ld (v := iV l1) (pc := 11) (dec_at lsk_154 (k := 7) rfl) rfl ?_
      refine u_ld (v := iV l3) (pc := 12) (dec_at lsk_154 (k := 8) rfl) rfl ?_
      refine u_ld (v := iV 1) (pc := 13) (dec_at lsk_154 (k := 9) rfl) rfl ?_
      refine u_iadd (pc := 14) (dec_at lsk_154 (k := 10) rfl) ?_
      have g13 := h.1
      have h := h.2
      have g14 := h.1
      have h := h.2
      refine u_iast (pc := 15) (dec_at lsk_154 (k := 11) rfl) sx_249 g13 g14 (fun u15 e16 => ?_)
      have h := h u15 e16
      refine u_rV (pc := 16) (dec_at lsk_154 (k := 12) rfl) rfl ?_
      exact u_rV (pc := 59) (dec_at lsk_152 (k := 38) rfl) rfl h
    · have h := ifF e8 h
      refine u_ld (v := .ref 232) (pc := 28) (dec_at lsk_152 (k := 18) rfl) rfl ?_
      refine u_ld (v := .ref 232) (pc := 29) (dec_at lsk_152 (k := 19) rfl) rfl ?_
      refine u_gS (o := 16) (p := 248) (pc := 30) (dec_at lsk_152 (k := 20) rfl) f_11_43 sx_232 rfl rfl ?_
      refine u_ld (v := iV l4) (pc := 33) (dec_at lsk_152 (k := 21) rfl) rfl ?_
      refine u_iald (pc := 35) (dec_at lsk_152 (k := 22) rfl) sx_248 g3 g4 ?_
      refine u_ld (v := iV l3) (pc := 36) (dec_at lsk_152 (k := 23) rfl) rfl ?_
      refine u_cvV (As := [iV (u5.1 248 l4), iV l3]) (rb := 232) (st2 := []) (pc := 37) (dec_at lsk_152 (k := 24) rfl) m_11_189 (Or.inl rfl) rfl (Nat.le_of_ble_eq_true rfl) sx_232 me_154 rfl ?_ (fun _ h_ => h_)
      refine u_of me_154 (Nat.le_of_ble_eq_true rfl) ?_
      refine u_ld (v := .ref 232) (pc := 0) (dec_at lsk_154 (k := 0) rfl) rfl ?_
      refine u_gS (o := 16) (p := 248) (pc := 1) (dec_at lsk_154 (k := 1) rfl) f_11_43 sx_232 rfl rfl ?_
      refine u_ld (v := iV l3) (pc := 4) (dec_at lsk_154 (k := 2) rfl) rfl ?_
      refine u_ld (v := iV (u5.1 248 l4)) (pc := 5) (dec_at lsk_154 (k := 3) rfl) rfl ?_
      have g17 := h.1
      have h := h.2
      have g18 := h.1
      have h := h.2
      refine u_iast (pc := 6) (dec_at lsk_154 (k := 4) rfl) sx_248 g17 g18 (fun u19 e20 => ?_)
      have h := h u19 e20
      refine u_ld (v := .ref 232) (pc := 7) (dec_at lsk_154 (k := 5) rfl) rfl ?_
      refine u_gS (o := 17) (p := 249) (pc := 8) (dec_at lsk_154 (k := 6) rfl) f_11_46 sx_232 rfl rfl ?_
      refine u_ld (v := iV (u5.1 248 l4)) (pc := 11) (dec_at lsk_154 (k := 7) rfl) rfl ?_
      refine u_ld (v := iV l3) (pc := 12) (dec_at lsk_154 (k := 8) rfl) rfl ?_
      refine u_ld (v := iV 1) (pc := 13) (dec_at lsk_154 (k := 9) rfl) rfl ?_
      refine u_iadd (pc := 14) (dec_at lsk_154 (k := 10) rfl) ?_
      have g21 := h.1
      have h := h.2
      have g22 := h.1
      have h := h.2
      refine u_iast (pc := 15) (dec_at lsk_154 (k := 11) rfl) sx_249 g21 g22 (fun u23 e24 => ?_)
      have h := h u23 e24
      refine u_rV (pc := 16) (dec_at lsk_154 (k := 12) rfl) rfl ?_
      refine u_ld (v := iV l4) (pc := 40) (dec_at lsk_152 (k := 25) rfl) rfl ?_
      refine u_sto (lv' := [.ref 232, iV l1, .retAddr 0, iV l4, iV l4]) (pc := 42) (dec_at lsk_152 (k := 26) rfl) rfl ?_
      refine u_ld (v := iV l4) (pc := 43) (dec_at lsk_152 (k := 27) rfl) rfl ?_
      refine u_ld (v := iV 1) (pc := 44) (dec_at lsk_152 (k := 28) rfl) rfl ?_
      refine u_isub (pc := 45) (dec_at lsk_152 (k := 29) rfl) ?_
      refine u_ld (v := iV 2) (pc := 46) (dec_at lsk_152 (k := 30) rfl) rfl ?_
      have g25 := h.1
      have h := h.2
      refine u_idiv (pc := 47) (dec_at lsk_152 (k := 31) rfl) g25 (by decide) (by decide) ?_
      refine u_sto (lv' := [.ref 232, iV l1, .retAddr 0, iV l4, iV ((l4 - 1).tdiv 2)]) (pc := 48) (dec_at lsk_152 (k := 32) rfl) rfl ?_
      refine u_goto (pc := 50) (tgt := 9) (dec_at lsk_152 (k := 33) rfl) rfl ?_
      exact h
  · have h := ifF e2 h
    refine u_ld (v := .ref 232) (pc := 53) (dec_at lsk_152 (k := 34) rfl) rfl ?_
    refine u_ld (v := iV l1) (pc := 54) (dec_at lsk_152 (k := 35) rfl) rfl ?_
    refine u_ld (v := iV l3) (pc := 55) (dec_at lsk_152 (k := 36) rfl) rfl ?_
    refine u_cvV (As := [iV l1, iV l3]) (rb := 232) (st2 := []) (pc := 56) (dec_at lsk_152 (k := 37) rfl) m_11_189 (Or.inl rfl) rfl (Nat.le_of_ble_eq_true rfl) sx_232 me_154 rfl ?_ (fun _ h_ => h_)
    refine u_of me_154 (Nat.le_of_ble_eq_true rfl) ?_
    refine u_ld (v := .ref 232) (pc := 0) (dec_at lsk_154 (k := 0) rfl) rfl ?_
    refine u_gS (o := 16) (p := 248) (pc := 1) (dec_at lsk_154 (k := 1) rfl) f_11_43 sx_232 rfl rfl ?_
    refine u_ld (v := iV l3) (pc := 4) (dec_at lsk_154 (k := 2) rfl) rfl ?_
    refine u_ld (v := iV l1) (pc := 5) (dec_at lsk_154 (k := 3) rfl) rfl ?_
    have g26 := h.1
    have h := h.2
    have g27 := h.1
    have h := h.2
    refine u_iast (pc := 6) (dec_at lsk_154 (k := 4) rfl) sx_248 g26 g27 (fun u28 e29 => ?_)
    have h := h u28 e29
    refine u_ld (v := .ref 232) (pc := 7) (dec_at lsk_154 (k := 5) rfl) rfl ?_
    refine u_gS (o := 17) (p := 249) (pc := 8) (dec_at lsk_154 (k := 6) rfl) f_11_46 sx_232 rfl rfl ?_
    refine u_ld (v := iV l1) (pc := 11) (dec_at lsk_154 (k := 7) rfl) rfl ?_
    refine u_ld (v := iV l3) (pc := 12) (dec_at lsk_154 (k := 8) rfl) rfl ?_
    refine u_ld (v := iV 1) (pc := 13) (dec_at lsk_154 (k := 9) rfl) rfl ?_
    refine u_iadd (pc := 14) (dec_at lsk_154 (k := 10) rfl) ?_
    have g30 := h.1
    have h := h.2
    have g31 := h.1
    have h := h.2
    refine u_iast (pc := 15) (dec_at lsk_154 (k := 11) rfl) sx_249 g30 g31 (fun u32 e33 => ?_)
    have h := h u32 e33
    refine u_rV (pc := 16) (dec_at lsk_154 (k := 12) rfl) rfl ?_
    exact u_rV (pc := 59) (dec_at lsk_152 (k := 38) rfl) rfl h
/-- method 153 -/
def K_153 (d pc : Nat) (lv : ev_L) (st : List Value) (u : uS) (Q : Int → uS → Prop) : Prop := okU d 11 3 false (some .boolean) prog_9_method_16_code (qI Q) pc lv st u
theorem e_153 {d : Nat} {Q : Int → uS → Prop} {u : uS} {l1 l2 : Int} (h : (0 ≤ l1) ∧ ((l1 < 16000) ∧ ((0 ≤ l2) ∧ ((l2 < 16000) ∧ ((rL (u.1 244 l1)) ∧ ((rL (u.1 244 l2)) ∧ (if u.1 244 l1 = u.1 244 l2 then ((rI (u.1 245 l1)) ∧ ((rI (u.1 245 l2)) ∧ (if u.1 245 l1 = u.1 245 l2 then ((rI l1) ∧ ((rI l2) ∧ (if l1 < l2 then (Q 1 u) else (Q 0 u)))) else (if u.1 245 l1 < u.1 245 l2 then (Q 1 u) else (Q 0 u))))) else (if u.1 244 l1 < u.1 244 l2 then (Q 1 u) else (Q 0 u))))))))) : cI (d + 1) 153 [.ref 232, iV l1, iV l2] u Q := by
  refine u_of me_153 (Nat.le_of_ble_eq_true rfl) ?_
  refine u_ld (v := .ref 232) (pc := 0) (dec_at lsk_153 (k := 0) rfl) rfl ?_
  refine u_gS (o := 12) (p := 244) (pc := 1) (dec_at lsk_153 (k := 1) rfl) f_11_29 sx_232 rfl rfl ?_
  refine u_ld (v := iV l1) (pc := 4) (dec_at lsk_153 (k := 2) rfl) rfl ?_
  have g1 := h.1
  have h := h.2
  have g2 := h.1
  have h := h.2
  refine u_lald (pc := 5) (dec_at lsk_153 (k := 3) rfl) sx_244 g1 g2 ?_
  refine u_ld (v := .ref 232) (pc := 6) (dec_at lsk_153 (k := 4) rfl) rfl ?_
  refine u_gS (o := 12) (p := 244) (pc := 7) (dec_at lsk_153 (k := 5) rfl) f_11_29 sx_232 rfl rfl ?_
  refine u_ld (v := iV l2) (pc := 10) (dec_at lsk_153 (k := 6) rfl) rfl ?_
  have g3 := h.1
  have h := h.2
  have g4 := h.1
  have h := h.2
  refine u_lald (pc := 11) (dec_at lsk_153 (k := 7) rfl) sx_244 g3 g4 ?_
  refine u_st (st' := [.int (lg_cmp (Int64.ofInt (u.1 244 l1)) (Int64.ofInt (u.1 244 l2)))]) (pc := 12) (dec_at lsk_153 (k := 8) rfl) rfl ?_
  have g5 := h.1
  have h := h.2
  have g6 := h.1
  have h := h.2
  refine u_ifT (pc := 13) (tgt := 38) (dec_at lsk_153 (k := 9) rfl) rfl (cl_eq g5 g6) (fun e7 => ?_) (fun e7 => ?_)
  · have h := ifT e7 h
    refine u_ld (v := .ref 232) (pc := 38) (dec_at lsk_153 (k := 24) rfl) rfl ?_
    refine u_gS (o := 13) (p := 245) (pc := 39) (dec_at lsk_153 (k := 25) rfl) f_11_33 sx_232 rfl rfl ?_
    refine u_ld (v := iV l1) (pc := 42) (dec_at lsk_153 (k := 26) rfl) rfl ?_
    refine u_iald (pc := 43) (dec_at lsk_153 (k := 27) rfl) sx_245 g1 g2 ?_
    refine u_ld (v := .ref 232) (pc := 44) (dec_at lsk_153 (k := 28) rfl) rfl ?_
    refine u_gS (o := 13) (p := 245) (pc := 45) (dec_at lsk_153 (k := 29) rfl) f_11_33 sx_232 rfl rfl ?_
    refine u_ld (v := iV l2) (pc := 48) (dec_at lsk_153 (k := 30) rfl) rfl ?_
    refine u_iald (pc := 49) (dec_at lsk_153 (k := 31) rfl) sx_245 g3 g4 ?_
    have g8 := h.1
    have h := h.2
    have g9 := h.1
    have h := h.2
    refine u_icT (pc := 50) (tgt := 74) (dec_at lsk_153 (k := 32) rfl) rfl (ci_eq g8 g9) (fun e10 => ?_) (fun e10 => ?_)
    · have h := ifT e10 h
      refine u_ld (v := iV l1) (pc := 74) (dec_at lsk_153 (k := 46) rfl) rfl ?_
      refine u_ld (v := iV l2) (pc := 75) (dec_at lsk_153 (k := 47) rfl) rfl ?_
      have g11 := h.1
      have h := h.2
      have g12 := h.1
      have h := h.2
      refine u_icF (pc := 76) (tgt := 83) (dec_at lsk_153 (k := 48) rfl) rfl (ci_ge g11 g12) (fun e13 => ?_) (fun e13 => ?_)
      · have h := ifT e13 h
        refine u_ld (v := iV 1) (pc := 79) (dec_at lsk_153 (k := 49) rfl) rfl ?_
        refine u_goto (pc := 80) (tgt := 84) (dec_at lsk_153 (k := 50) rfl) rfl ?_
        exact u_rZ (pc := 84) (dec_at lsk_153 (k := 52) rfl) rfl (by decide) h
      · have h := ifF e13 h
        refine u_ld (v := iV 0) (pc := 83) (dec_at lsk_153 (k := 51) rfl) rfl ?_
        exact u_rZ (pc := 84) (dec_at lsk_153 (k := 52) rfl) rfl (by decide) h
    · have h := ifF e10 h
      refine u_ld (v := .ref 232) (pc := 53) (dec_at lsk_153 (k := 33) rfl) rfl ?_
      refine u_gS (o := 13) (p := 245) (pc := 54) (dec_at lsk_153 (k := 34) rfl) f_11_33 sx_232 rfl rfl ?_
      refine u_ld (v := iV l1) (pc := 57) (dec_at lsk_153 (k := 35) rfl) rfl ?_
      refine u_iald (pc := 58) (dec_at lsk_153 (k := 36) rfl) sx_245 g1 g2 ?_
      refine u_ld (v := .ref 232) (pc := 59) (dec_at lsk_153 (k := 37) rfl) rfl ?_
      refine u_gS (o := 13) (p := 245) (pc := 60) (dec_at lsk_153 (k := 38) rfl) f_11_33 sx_232 rfl rfl ?_
      refine u_ld (v := iV l2) (pc := 63) (dec_at lsk_153 (k := 39) rfl) rfl ?_
      refine u_iald (pc := 64) (dec_at lsk_153 (k := 40) rfl) sx_245 g3 g4 ?_
      refine u_icF (pc := 65) (tgt := 72) (dec_at lsk_153 (k := 41) rfl) rfl (ci_ge g8 g9) (fun e14 => ?_) (fun e14 => ?_)
      · have h := ifT e14 h
        refine u_ld (v := iV 1) (pc := 68) (dec_at lsk_153 (k := 42) rfl) rfl ?_
        refine u_goto (pc := 69) (tgt := 73) (dec_at lsk_153 (k := 43) rfl) rfl ?_
        exact u_rZ (pc := 73) (dec_at lsk_153 (k := 45) rfl) rfl (by decide) h
      · have h := ifF e14 h
        refine u_ld (v := iV 0) (pc := 72) (dec_at lsk_153 (k := 44) rfl) rfl ?_
        exact u_rZ (pc := 73) (dec_at lsk_153 (k := 45) rfl) rfl (by decide) h
  · have h := ifF e7 h
    refine u_ld (v := .ref 232) (pc := 16) (dec_at lsk_153 (k := 10) rfl) rfl ?_
    refine u_gS (o := 12) (p := 244) (pc := 17) (dec_at lsk_153 (k := 11) rfl) f_11_29 sx_232 rfl rfl ?_
    refine u_ld (v := iV l1) (pc := 20) (dec_at lsk_153 (k := 12) rfl) rfl ?_
    refine u_lald (pc := 21) (dec_at lsk_153 (k := 13) rfl) sx_244 g1 g2 ?_
    refine u_ld (v := .ref 232) (pc := 22) (dec_at lsk_153 (k := 14) rfl) rfl ?_
    refine u_gS (o := 12) (p := 244) (pc := 23) (dec_at lsk_153 (k := 15) rfl) f_11_29 sx_232 rfl rfl ?_
    refine u_ld (v := iV l2) (pc := 26) (dec_at lsk_153 (k := 16) rfl) rfl ?_
    refine u_lald (pc := 27) (dec_at lsk_153 (k := 17) rfl) sx_244 g3 g4 ?_
    refine u_st (st' := [.int (lg_cmp (Int64.ofInt (u.1 244 l1)) (Int64.ofInt (u.1 244 l2)))]) (pc := 28) (dec_at lsk_153 (k := 18) rfl) rfl ?_
    refine u_ifF (pc := 29) (tgt := 36) (dec_at lsk_153 (k := 19) rfl) rfl (cl_ge g5 g6) (fun e15 => ?_) (fun e15 => ?_)
    · have h := ifT e15 h
      refine u_ld (v := iV 1) (pc := 32) (dec_at lsk_153 (k := 20) rfl) rfl ?_
      refine u_goto (pc := 33) (tgt := 37) (dec_at lsk_153 (k := 21) rfl) rfl ?_
      exact u_rZ (pc := 37) (dec_at lsk_153 (k := 23) rfl) rfl (by decide) h
    · have h := ifF e15 h
      refine u_ld (v := iV 0) (pc := 36) (dec_at lsk_153 (k := 22) rfl) rfl ?_
      exact u_rZ (pc := 37) (dec_at lsk_153 (k := 23) rfl) rfl (by decide) h
/-- method 156 -/
def K_156 (d pc : Nat) (lv : ev_L) (st : List Value) (u : uS) (Q : Int → uS → Prop) : Prop := okU d 11 5 false (some .boolean) prog_9_method_11_code (qI Q) pc lv st u
theorem e_156 {d : Nat} {Q : Int → uS → Prop} {u : uS} {l1 l2 l4 : Int} (h : (0 ≤ l1) ∧ ((l1 < 240000) ∧ ((rL l2) ∧ ((rL (u.1 250 l1)) ∧ (if u.1 250 l1 < l2 then (Q 0 u) else (if l2 = u.1 250 l1 then ((rI l4) ∧ ((rI (u.1 251 l1)) ∧ (if l4 < u.1 251 l1 then (∀ u10 : uS, u10 = wr u 250 l1 l2 → (∀ u12 : uS, u12 = wr u10 251 l1 l4 → (Q 1 u12))) else (Q 0 u)))) else (∀ u14 : uS, u14 = wr u 250 l1 l2 → (∀ u16 : uS, u16 = wr u14 251 l1 l4 → (Q 1 u16))))))))) : cI (d + 1) 156 [.ref 232, iV l1, lV l2, iV l4] u Q := by
  refine u_of me_156 (Nat.le_of_ble_eq_true rfl) ?_
  refine u_ld (v := lV l2) (pc := 0) (dec_at lsk_156 (k := 0) rfl) rfl ?_
  refine u_ld (v := .ref 232) (pc := 1) (dec_at lsk_156 (k := 1) rfl) rfl ?_
  refine u_gS (o := 18) (p := 250) (pc := 2) (dec_at lsk_156 (k := 2) rfl) f_11_50 sx_232 rfl rfl ?_
  refine u_ld (v := iV l1) (pc := 5) (dec_at lsk_156 (k := 3) rfl) rfl ?_
  have g1 := h.1
  have h := h.2
  have g2 := h.1
  have h := h.2
  refine u_lald (pc := 6) (dec_at lsk_156 (k := 4) rfl) sx_250 g1 g2 ?_
  refine u_st (st' := [.int (lg_cmp (Int64.ofInt l2) (Int64.ofInt (u.1 250 l1)))]) (pc := 7) (dec_at lsk_156 (k := 5) rfl) rfl ?_
  have g3 := h.1
  have h := h.2
  have g4 := h.1
  have h := h.2
  refine u_ifT (pc := 8) (tgt := 33) (dec_at lsk_156 (k := 6) rfl) rfl (cl_gt g3 g4) (fun e5 => ?_) (fun e5 => ?_)
  · have h := ifT e5 h
    refine u_ld (v := iV 0) (pc := 33) (dec_at lsk_156 (k := 20) rfl) rfl ?_
    exact u_rZ (pc := 34) (dec_at lsk_156 (k := 21) rfl) rfl (by decide) h
  · have h := ifF e5 h
    refine u_ld (v := lV l2) (pc := 11) (dec_at lsk_156 (k := 7) rfl) rfl ?_
    refine u_ld (v := .ref 232) (pc := 12) (dec_at lsk_156 (k := 8) rfl) rfl ?_
    refine u_gS (o := 18) (p := 250) (pc := 13) (dec_at lsk_156 (k := 9) rfl) f_11_50 sx_232 rfl rfl ?_
    refine u_ld (v := iV l1) (pc := 16) (dec_at lsk_156 (k := 10) rfl) rfl ?_
    refine u_lald (pc := 17) (dec_at lsk_156 (k := 11) rfl) sx_250 g1 g2 ?_
    refine u_st (st' := [.int (lg_cmp (Int64.ofInt l2) (Int64.ofInt (u.1 250 l1)))]) (pc := 18) (dec_at lsk_156 (k := 12) rfl) rfl ?_
    refine u_ifF (pc := 19) (tgt := 35) (dec_at lsk_156 (k := 13) rfl) rfl (cl_ne g3 g4) (fun e6 => ?_) (fun e6 => ?_)
    · have h := ifT e6 h
      refine u_ld (v := iV l4) (pc := 22) (dec_at lsk_156 (k := 14) rfl) rfl ?_
      refine u_ld (v := .ref 232) (pc := 24) (dec_at lsk_156 (k := 15) rfl) rfl ?_
      refine u_gS (o := 19) (p := 251) (pc := 25) (dec_at lsk_156 (k := 16) rfl) f_11_53 sx_232 rfl rfl ?_
      refine u_ld (v := iV l1) (pc := 28) (dec_at lsk_156 (k := 17) rfl) rfl ?_
      refine u_iald (pc := 29) (dec_at lsk_156 (k := 18) rfl) sx_251 g1 g2 ?_
      have g7 := h.1
      have h := h.2
      have g8 := h.1
      have h := h.2
      refine u_icT (pc := 30) (tgt := 35) (dec_at lsk_156 (k := 19) rfl) rfl (ci_lt g7 g8) (fun e9 => ?_) (fun e9 => ?_)
      · have h := ifT e9 h
        refine u_ld (v := .ref 232) (pc := 35) (dec_at lsk_156 (k := 22) rfl) rfl ?_
        refine u_gS (o := 18) (p := 250) (pc := 36) (dec_at lsk_156 (k := 23) rfl) f_11_50 sx_232 rfl rfl ?_
        refine u_ld (v := iV l1) (pc := 39) (dec_at lsk_156 (k := 24) rfl) rfl ?_
        refine u_ld (v := lV l2) (pc := 40) (dec_at lsk_156 (k := 25) rfl) rfl ?_
        refine u_last (pc := 41) (dec_at lsk_156 (k := 26) rfl) sx_250 g1 g2 (fun u10 e11 => ?_)
        have h := h u10 e11
        refine u_ld (v := .ref 232) (pc := 42) (dec_at lsk_156 (k := 27) rfl) rfl ?_
        refine u_gS (o := 19) (p := 251) (pc := 43) (dec_at lsk_156 (k := 28) rfl) f_11_53 sx_232 rfl rfl ?_
        refine u_ld (v := iV l1) (pc := 46) (dec_at lsk_156 (k := 29) rfl) rfl ?_
        refine u_ld (v := iV l4) (pc := 47) (dec_at lsk_156 (k := 30) rfl) rfl ?_
        refine u_iast (pc := 49) (dec_at lsk_156 (k := 31) rfl) sx_251 g1 g2 (fun u12 e13 => ?_)
        have h := h u12 e13
        refine u_ld (v := iV 1) (pc := 50) (dec_at lsk_156 (k := 32) rfl) rfl ?_
        exact u_rZ (pc := 51) (dec_at lsk_156 (k := 33) rfl) rfl (by decide) h
      · have h := ifF e9 h
        refine u_ld (v := iV 0) (pc := 33) (dec_at lsk_156 (k := 20) rfl) rfl ?_
        exact u_rZ (pc := 34) (dec_at lsk_156 (k := 21) rfl) rfl (by decide) h
    · have h := ifF e6 h
      refine u_ld (v := .ref 232) (pc := 35) (dec_at lsk_156 (k := 22) rfl) rfl ?_
      refine u_gS (o := 18) (p := 250) (pc := 36) (dec_at lsk_156 (k := 23) rfl) f_11_50 sx_232 rfl rfl ?_
      refine u_ld (v := iV l1) (pc := 39) (dec_at lsk_156 (k := 24) rfl) rfl ?_
      refine u_ld (v := lV l2) (pc := 40) (dec_at lsk_156 (k := 25) rfl) rfl ?_
      refine u_last (pc := 41) (dec_at lsk_156 (k := 26) rfl) sx_250 g1 g2 (fun u14 e15 => ?_)
      have h := h u14 e15
      refine u_ld (v := .ref 232) (pc := 42) (dec_at lsk_156 (k := 27) rfl) rfl ?_
      refine u_gS (o := 19) (p := 251) (pc := 43) (dec_at lsk_156 (k := 28) rfl) f_11_53 sx_232 rfl rfl ?_
      refine u_ld (v := iV l1) (pc := 46) (dec_at lsk_156 (k := 29) rfl) rfl ?_
      refine u_ld (v := iV l4) (pc := 47) (dec_at lsk_156 (k := 30) rfl) rfl ?_
      refine u_iast (pc := 49) (dec_at lsk_156 (k := 31) rfl) sx_251 g1 g2 (fun u16 e17 => ?_)
      have h := h u16 e17
      refine u_ld (v := iV 1) (pc := 50) (dec_at lsk_156 (k := 32) rfl) rfl ?_
      exact u_rZ (pc := 51) (dec_at lsk_156 (k := 33) rfl) rfl (by decide) h
/-- method 157 -/
def K_157 (d pc : Nat) (lv : ev_L) (st : List Value) (u : uS) (Q : Int → uS → Prop) : Prop := okU d 11 5 false (some .int) prog_9_method_19_code (qI Q) pc lv st u
theorem e_157 {d : Nat} {Q : Int → uS → Prop} {u : uS} (h : ∀ u1 : uS, u1 = wr u 232 11 ((u.1 232 11) - 1) → ((0 ≤ u1.1 232 11) ∧ ((u1.1 232 11 < 16000) ∧ (K_157 (d + 1) 32 [.ref 232, iV (u.1 248 0), iV (u1.1 248 (u1.1 232 11)), iV 0, iV 1] [] u1 Q)))) : cI (d + 2) 157 [.ref 232] u Q := by
  refine u_of me_157 (Nat.le_of_ble_eq_true rfl) ?_
  refine u_ld (v := .ref 232) (pc := 0) (dec_at lsk_157 (k := 0) rfl) rfl ?_
  refine u_gS (o := 16) (p := 248) (pc := 1) (dec_at lsk_157 (k := 1) rfl) f_11_43 sx_232 rfl rfl ?_
  refine u_ld (v := iV 0) (pc := 4) (dec_at lsk_157 (k := 2) rfl) rfl ?_
  refine u_iald (pc := 5) (dec_at lsk_157 (k := 3) rfl) sx_248 (by decide) (by decide) ?_
  refine u_sto (lv' := [.ref 232, iV (u.1 248 0), .retAddr 0, .retAddr 0, .retAddr 0]) (pc := 6) (dec_at lsk_157 (k := 4) rfl) rfl ?_
  refine u_ld (v := .ref 232) (pc := 7) (dec_at lsk_157 (k := 5) rfl) rfl ?_
  refine u_ld (v := .ref 232) (pc := 8) (dec_at lsk_157 (k := 6) rfl) rfl ?_
  refine u_gI (z := 11) (pc := 9) (dec_at lsk_157 (k := 7) rfl) f_11_75 sx_232 rfl rfl ?_
  refine u_ld (v := iV 1) (pc := 12) (dec_at lsk_157 (k := 8) rfl) rfl ?_
  refine u_isub (pc := 13) (dec_at lsk_157 (k := 9) rfl) ?_
  refine u_pI (z := 11) (pc := 14) (dec_at lsk_157 (k := 10) rfl) f_11_75 sx_232 rfl rfl rfl rfl (fun u1 e2 => ?_)
  have h := h u1 e2
  refine u_ld (v := .ref 232) (pc := 17) (dec_at lsk_157 (k := 11) rfl) rfl ?_
  refine u_gS (o := 16) (p := 248) (pc := 18) (dec_at lsk_157 (k := 12) rfl) f_11_43 sx_232 rfl rfl ?_
  refine u_ld (v := .ref 232) (pc := 21) (dec_at lsk_157 (k := 13) rfl) rfl ?_
  refine u_gI (z := 11) (pc := 22) (dec_at lsk_157 (k := 14) rfl) f_11_75 sx_232 rfl rfl ?_
  have g3 := h.1
  have h := h.2
  have g4 := h.1
  have h := h.2
  refine u_iald (pc := 25) (dec_at lsk_157 (k := 15) rfl) sx_248 g3 g4 ?_
  refine u_sto (lv' := [.ref 232, iV (u.1 248 0), iV (u1.1 248 (u1.1 232 11)), .retAddr 0, .retAddr 0]) (pc := 26) (dec_at lsk_157 (k := 16) rfl) rfl ?_
  refine u_ld (v := iV 0) (pc := 27) (dec_at lsk_157 (k := 17) rfl) rfl ?_
  refine u_sto (lv' := [.ref 232, iV (u.1 248 0), iV (u1.1 248 (u1.1 232 11)), iV 0, .retAddr 0]) (pc := 28) (dec_at lsk_157 (k := 18) rfl) rfl ?_
  refine u_ld (v := iV 1) (pc := 29) (dec_at lsk_157 (k := 19) rfl) rfl ?_
  refine u_sto (lv' := [.ref 232, iV (u.1 248 0), iV (u1.1 248 (u1.1 232 11)), iV 0, iV 1]) (pc := 30) (dec_at lsk_157 (k := 20) rfl) rfl ?_
  exact h
theorem k_157_32 {d : Nat} {Q : Int → uS → Prop} {u : uS} {l1 l2 l3 l4 : Int} (h : (rI l4) ∧ ((rI (u.1 232 11)) ∧ (if l4 < u.1 232 11 then ((rI (l4 + 1)) ∧ (if l4 + 1 < u.1 232 11 then ((0 ≤ l4 + 1) ∧ ((l4 + 1 < 16000) ∧ ((0 ≤ l4) ∧ ((l4 < 16000) ∧ (cI (d + 1) 153 [.ref 232, iV (u.1 248 (l4 + 1)), iV (u.1 248 l4)] u (fun r11 u10 => (rI r11) ∧ (if r11 = 0 then (K_157 (d + 1) 78 [.ref 232, iV l1, iV l2, iV l3, iV l4] [] u10 Q) else (K_157 (d + 1) 78 [.ref 232, iV l1, iV l2, iV l3, iV (l4 + 1)] [] u10 Q)))))))) else (K_157 (d + 1) 78 [.ref 232, iV l1, iV l2, iV l3, iV l4] [] u Q))) else ((0 ≤ l3) ∧ ((l3 < 16000) ∧ (∀ u16 : uS, u16 = wr u 248 l3 l2 → ((0 ≤ l2) ∧ ((l2 < 16000) ∧ (∀ u20 : uS, u20 = wr u16 249 l2 (l3 + 1) → (Q l1 u20)))))))))) : K_157 (d + 1) 32 [.ref 232, iV l1, iV l2, iV l3, iV l4] [] u Q := by
  unfold K_157
  refine u_ld (v := iV l4) (pc := 32) (dec_at lsk_157 (k := 21) rfl) rfl ?_
  refine u_ld (v := .ref 232) (pc := 34) (dec_at lsk_157 (k := 22) rfl) rfl ?_
  refine u_gI (z := 11) (pc := 35) (dec_at lsk_157 (k := 23) rfl) f_11_75 sx_232 rfl rfl ?_
  have g1 := h.1
  have h := h.2
  have g2 := h.1
  have h := h.2
  refine u_icF (pc := 38) (tgt := 121) (dec_at lsk_157 (k := 24) rfl) rfl (ci_ge g1 g2) (fun e3 => ?_) (fun e3 => ?_)
  · have h := ifT e3 h
    refine u_ld (v := iV l4) (pc := 41) (dec_at lsk_157 (k := 25) rfl) rfl ?_
    refine u_ld (v := iV 1) (pc := 43) (dec_at lsk_157 (k := 26) rfl) rfl ?_
    refine u_iadd (pc := 44) (dec_at lsk_157 (k := 27) rfl) ?_
    refine u_ld (v := .ref 232) (pc := 45) (dec_at lsk_157 (k := 28) rfl) rfl ?_
    refine u_gI (z := 11) (pc := 46) (dec_at lsk_157 (k := 29) rfl) f_11_75 sx_232 rfl rfl ?_
    have g4 := h.1
    have h := h.2
    refine u_icF (pc := 49) (tgt := 78) (dec_at lsk_157 (k := 30) rfl) rfl (ci_ge g4 g2) (fun e5 => ?_) (fun e5 => ?_)
    · have h := ifT e5 h
      refine u_ld (v := .ref 232) (pc := 52) (dec_at lsk_157 (k := 31) rfl) rfl ?_
      refine u_ld (v := .ref 232) (pc := 53) (dec_at lsk_157 (k := 32) rfl) rfl ?_
      refine u_gS (o := 16) (p := 248) (pc := 54) (dec_at lsk_157 (k := 33) rfl) f_11_43 sx_232 rfl rfl ?_
      refine u_ld (v := iV l4) (pc := 57) (dec_at lsk_157 (k := 34) rfl) rfl ?_
      refine u_ld (v := iV 1) (pc := 59) (dec_at lsk_157 (k := 35) rfl) rfl ?_
      refine u_iadd (pc := 60) (dec_at lsk_157 (k := 36) rfl) ?_
      have g6 := h.1
      have h := h.2
      have g7 := h.1
      have h := h.2
      refine u_iald (pc := 61) (dec_at lsk_157 (k := 37) rfl) sx_248 g6 g7 ?_
      refine u_ld (v := .ref 232) (pc := 62) (dec_at lsk_157 (k := 38) rfl) rfl ?_
      refine u_gS (o := 16) (p := 248) (pc := 63) (dec_at lsk_157 (k := 39) rfl) f_11_43 sx_232 rfl rfl ?_
      refine u_ld (v := iV l4) (pc := 66) (dec_at lsk_157 (k := 40) rfl) rfl ?_
      have g8 := h.1
      have h := h.2
      have g9 := h.1
      have h := h.2
      refine u_iald (pc := 68) (dec_at lsk_157 (k := 41) rfl) sx_248 g8 g9 ?_
      refine u_cvI (As := [iV (u.1 248 (l4 + 1)), iV (u.1 248 l4)]) (rb := 232) (st2 := []) (pc := 69) (dec_at lsk_157 (k := 42) rfl) m_11_185 (Or.inl rfl) rfl (Nat.le_of_ble_eq_true rfl) sx_232 me_153 rfl h (fun r11 u10 h => ?_)
      have g12 := h.1
      have h := h.2
      refine u_ifT (pc := 72) (tgt := 78) (dec_at lsk_157 (k := 43) rfl) rfl (c0_eq g12) (fun e13 => ?_) (fun e13 => ?_)
      · have h := ifT e13 h
        exact h
      · have h := ifF e13 h
        refine u_inc (lv' := [.ref 232, iV l1, iV l2, iV l3, iV (l4 + 1)]) (pc := 75) (dec_at lsk_157 (k := 44) rfl) rfl (by decide) rfl ?_
        exact h
    · have h := ifF e5 h
      exact h
  · have h := ifF e3 h
    refine u_ld (v := .ref 232) (pc := 121) (dec_at lsk_157 (k := 70) rfl) rfl ?_
    refine u_ld (v := iV l2) (pc := 122) (dec_at lsk_157 (k := 71) rfl) rfl ?_
    refine u_ld (v := iV l3) (pc := 123) (dec_at lsk_157 (k := 72) rfl) rfl ?_
    refine u_cvV (As := [iV l2, iV l3]) (rb := 232) (st2 := []) (pc := 124) (dec_at lsk_157 (k := 73) rfl) m_11_189 (Or.inl rfl) rfl (Nat.le_of_ble_eq_true rfl) sx_232 me_154 rfl ?_ (fun _ h_ => h_)
    refine u_of me_154 (Nat.le_of_ble_eq_true rfl) ?_
    refine u_ld (v := .ref 232) (pc := 0) (dec_at lsk_154 (k := 0) rfl) rfl ?_
    refine u_gS (o := 16) (p := 248) (pc := 1) (dec_at lsk_154 (k := 1) rfl) f_11_43 sx_232 rfl rfl ?_
    refine u_ld (v := iV l3) (pc := 4) (dec_at lsk_154 (k := 2) rfl) rfl ?_
    refine u_ld (v := iV l2) (pc := 5) (dec_at lsk_154 (k := 3) rfl) rfl ?_
    have g14 := h.1
    have h := h.2
    have g15 := h.1
    have h := h.2
    refine u_iast (pc := 6) (dec_at lsk_154 (k := 4) rfl) sx_248 g14 g15 (fun u16 e17 => ?_)
    have h := h u16 e17
    refine u_ld (v := .ref 232) (pc := 7) (dec_at lsk_154 (k := 5) rfl) rfl ?_
    refine u_gS (o := 17) (p := 249) (pc := 8) (dec_at lsk_154 (k := 6) rfl) f_11_46 sx_232 rfl rfl ?_
    refine u_ld (v := iV l2) (pc := 11) (dec_at lsk_154 (k := 7) rfl) rfl ?_
    refine u_ld (v := iV l3) (pc := 12) (dec_at lsk_154 (k := 8) rfl) rfl ?_
    refine u_ld (v := iV 1) (pc := 13) (dec_at lsk_154 (k := 9) rfl) rfl ?_
    refine u_iadd (pc := 14) (dec_at lsk_154 (k := 10) rfl) ?_
    have g18 := h.1
    have h := h.2
    have g19 := h.1
    have h := h.2
    refine u_iast (pc := 15) (dec_at lsk_154 (k := 11) rfl) sx_249 g18 g19 (fun u20 e21 => ?_)
    have h := h u20 e21
    refine u_rV (pc := 16) (dec_at lsk_154 (k := 12) rfl) rfl ?_
    refine u_ld (v := iV l1) (pc := 127) (dec_at lsk_157 (k := 74) rfl) rfl ?_
    exact u_rI (pc := 128) (dec_at lsk_157 (k := 75) rfl) rfl h
theorem k_157_78 {d : Nat} {Q : Int → uS → Prop} {u : uS} {l1 l2 l3 l4 : Int} (h : (0 ≤ l4) ∧ ((l4 < 16000) ∧ (cI (d + 1) 153 [.ref 232, iV (u.1 248 l4), iV l2] u (fun r4 u3 => (rI r4) ∧ (if r4 = 0 then ((0 ≤ l3) ∧ ((l3 < 16000) ∧ (∀ u9 : uS, u9 = wr u3 248 l3 l2 → ((0 ≤ l2) ∧ ((l2 < 16000) ∧ (∀ u13 : uS, u13 = wr u9 249 l2 (l3 + 1) → (Q l1 u13))))))) else ((0 ≤ l3) ∧ ((l3 < 16000) ∧ (∀ u17 : uS, u17 = wr u3 248 l3 (u3.1 248 l4) → ((0 ≤ u3.1 248 l4) ∧ ((u3.1 248 l4 < 16000) ∧ (∀ u21 : uS, u21 = wr u17 249 (u3.1 248 l4) (l3 + 1) → (K_157 (d + 1) 32 [.ref 232, iV l1, iV l2, iV l4, iV ((2 * l4) + 1)] [] u21 Q)))))))))))) : K_157 (d + 1) 78 [.ref 232, iV l1, iV l2, iV l3, iV l4] [] u Q := by
  unfold K_157
  refine u_ld (v := .ref 232) (pc := 78) (dec_at lsk_157 (k := 45) rfl) rfl ?_
  refine u_ld (v := .ref 232) (pc := 79) (dec_at lsk_157 (k := 46) rfl) rfl ?_
  refine u_gS (o := 16) (p := 248) (pc := 80) (dec_at lsk_157 (k := 47) rfl) f_11_43 sx_232 rfl rfl ?_
  refine u_ld (v := iV l4) (pc := 83) (dec_at lsk_157 (k := 48) rfl) rfl ?_
  have g1 := h.1
  have h := h.2
  have g2 := h.1
  have h := h.2
  refine u_iald (pc := 85) (dec_at lsk_157 (k := 49) rfl) sx_248 g1 g2 ?_
  refine u_ld (v := iV l2) (pc := 86) (dec_at lsk_157 (k := 50) rfl) rfl ?_
  refine u_cvI (As := [iV (u.1 248 l4), iV l2]) (rb := 232) (st2 := []) (pc := 87) (dec_at lsk_157 (k := 51) rfl) m_11_185 (Or.inl rfl) rfl (Nat.le_of_ble_eq_true rfl) sx_232 me_153 rfl h (fun r4 u3 h => ?_)
  have g5 := h.1
  have h := h.2
  refine u_ifF (pc := 90) (tgt := 96) (dec_at lsk_157 (k := 52) rfl) rfl (c0_ne g5) (fun e6 => ?_) (fun e6 => ?_)
  · have h := ifT e6 h
    refine u_goto (pc := 93) (tgt := 121) (dec_at lsk_157 (k := 53) rfl) rfl ?_
    refine u_ld (v := .ref 232) (pc := 121) (dec_at lsk_157 (k := 70) rfl) rfl ?_
    refine u_ld (v := iV l2) (pc := 122) (dec_at lsk_157 (k := 71) rfl) rfl ?_
    refine u_ld (v := iV l3) (pc := 123) (dec_at lsk_157 (k := 72) rfl) rfl ?_
    refine u_cvV (As := [iV l2, iV l3]) (rb := 232) (st2 := []) (pc := 124) (dec_at lsk_157 (k := 73) rfl) m_11_189 (Or.inl rfl) rfl (Nat.le_of_ble_eq_true rfl) sx_232 me_154 rfl ?_ (fun _ h_ => h_)
    refine u_of me_154 (Nat.le_of_ble_eq_true rfl) ?_
    refine u_ld (v := .ref 232) (pc := 0) (dec_at lsk_154 (k := 0) rfl) rfl ?_
    refine u_gS (o := 16) (p := 248) (pc := 1) (dec_at lsk_154 (k := 1) rfl) f_11_43 sx_232 rfl rfl ?_
    refine u_ld (v := iV l3) (pc := 4) (dec_at lsk_154 (k := 2) rfl) rfl ?_
    refine u_ld (v := iV l2) (pc := 5) (dec_at lsk_154 (k := 3) rfl) rfl ?_
    have g7 := h.1
    have h := h.2
    have g8 := h.1
    have h := h.2
    refine u_iast (pc := 6) (dec_at lsk_154 (k := 4) rfl) sx_248 g7 g8 (fun u9 e10 => ?_)
    have h := h u9 e10
    refine u_ld (v := .ref 232) (pc := 7) (dec_at lsk_154 (k := 5) rfl) rfl ?_
    refine u_gS (o := 17) (p := 249) (pc := 8) (dec_at lsk_154 (k := 6) rfl) f_11_46 sx_232 rfl rfl ?_
    refine u_ld (v := iV l2) (pc := 11) (dec_at lsk_154 (k := 7) rfl) rfl ?_
    refine u_ld (v := iV l3) (pc := 12) (dec_at lsk_154 (k := 8) rfl) rfl ?_
    refine u_ld (v := iV 1) (pc := 13) (dec_at lsk_154 (k := 9) rfl) rfl ?_
    refine u_iadd (pc := 14) (dec_at lsk_154 (k := 10) rfl) ?_
    have g11 := h.1
    have h := h.2
    have g12 := h.1
    have h := h.2
    refine u_iast (pc := 15) (dec_at lsk_154 (k := 11) rfl) sx_249 g11 g12 (fun u13 e14 => ?_)
    have h := h u13 e14
    refine u_rV (pc := 16) (dec_at lsk_154 (k := 12) rfl) rfl ?_
    refine u_ld (v := iV l1) (pc := 127) (dec_at lsk_157 (k := 74) rfl) rfl ?_
    exact u_rI (pc := 128) (dec_at lsk_157 (k := 75) rfl) rfl h
  · have h := ifF e6 h
    refine u_ld (v := .ref 232) (pc := 96) (dec_at lsk_157 (k := 54) rfl) rfl ?_
    refine u_ld (v := .ref 232) (pc := 97) (dec_at lsk_157 (k := 55) rfl) rfl ?_
    refine u_gS (o := 16) (p := 248) (pc := 98) (dec_at lsk_157 (k := 56) rfl) f_11_43 sx_232 rfl rfl ?_
    refine u_ld (v := iV l4) (pc := 101) (dec_at lsk_157 (k := 57) rfl) rfl ?_
    refine u_iald (pc := 103) (dec_at lsk_157 (k := 58) rfl) sx_248 g1 g2 ?_
    refine u_ld (v := iV l3) (pc := 104) (dec_at lsk_157 (k := 59) rfl) rfl ?_
    refine u_cvV (As := [iV (u3.1 248 l4), iV l3]) (rb := 232) (st2 := []) (pc := 105) (dec_at lsk_157 (k := 60) rfl) m_11_189 (Or.inl rfl) rfl (Nat.le_of_ble_eq_true rfl) sx_232 me_154 rfl ?_ (fun _ h_ => h_)
    refine u_of me_154 (Nat.le_of_ble_eq_true rfl) ?_
    refine u_ld (v := .ref 232) (pc := 0) (dec_at lsk_154 (k := 0) rfl) rfl ?_
    refine u_gS (o := 16) (p := 248) (pc := 1) (dec_at lsk_154 (k := 1) rfl) f_11_43 sx_232 rfl rfl ?_
    refine u_ld (v := iV l3) (pc := 4) (dec_at lsk_154 (k := 2) rfl) rfl ?_
    refine u_ld (v := iV (u3.1 248 l4)) (pc := 5) (dec_at lsk_154 (k := 3) rfl) rfl ?_
    have g15 := h.1
    have h := h.2
    have g16 := h.1
    have h := h.2
    refine u_iast (pc := 6) (dec_at lsk_154 (k := 4) rfl) sx_248 g15 g16 (fun u17 e18 => ?_)
    have h := h u17 e18
    refine u_ld (v := .ref 232) (pc := 7) (dec_at lsk_154 (k := 5) rfl) rfl ?_
    refine u_gS (o := 17) (p := 249) (pc := 8) (dec_at lsk_154 (k := 6) rfl) f_11_46 sx_232 rfl rfl ?_
    refine u_ld (v := iV (u3.1 248 l4)) (pc := 11) (dec_at lsk_154 (k := 7) rfl) rfl ?_
    refine u_ld (v := iV l3) (pc := 12) (dec_at lsk_154 (k := 8) rfl) rfl ?_
    refine u_ld (v := iV 1) (pc := 13) (dec_at lsk_154 (k := 9) rfl) rfl ?_
    refine u_iadd (pc := 14) (dec_at lsk_154 (k := 10) rfl) ?_
    have g19 := h.1
    have h := h.2
    have g20 := h.1
    have h := h.2
    refine u_iast (pc := 15) (dec_at lsk_154 (k := 11) rfl) sx_249 g19 g20 (fun u21 e22 => ?_)
    have h := h u21 e22
    refine u_rV (pc := 16) (dec_at lsk_154 (k := 12) rfl) rfl ?_
    refine u_ld (v := iV l4) (pc := 108) (dec_at lsk_157 (k := 61) rfl) rfl ?_
    refine u_sto (lv' := [.ref 232, iV l1, iV l2, iV l4, iV l4]) (pc := 110) (dec_at lsk_157 (k := 62) rfl) rfl ?_
    refine u_ld (v := iV 2) (pc := 111) (dec_at lsk_157 (k := 63) rfl) rfl ?_
    refine u_ld (v := iV l4) (pc := 112) (dec_at lsk_157 (k := 64) rfl) rfl ?_
    refine u_imul (pc := 113) (dec_at lsk_157 (k := 65) rfl) ?_
    refine u_ld (v := iV 1) (pc := 114) (dec_at lsk_157 (k := 66) rfl) rfl ?_
    refine u_iadd (pc := 115) (dec_at lsk_157 (k := 67) rfl) ?_
    refine u_sto (lv' := [.ref 232, iV l1, iV l2, iV l4, iV ((2 * l4) + 1)]) (pc := 116) (dec_at lsk_157 (k := 68) rfl) rfl ?_
    refine u_goto (pc := 118) (tgt := 32) (dec_at lsk_157 (k := 69) rfl) rfl ?_
    exact h
/-- method 158 -/
def K_158 (d pc : Nat) (lv : ev_L) (st : List Value) (u : uS) (Q : uS → Prop) : Prop := okU d 11 2 false none prog_9_method_12_code (qV Q) pc lv st u
theorem e_158 {d : Nat} {Q : uS → Prop} {u : uS} {l1 : Int} (h : (0 ≤ u.1 232 7) ∧ ((u.1 232 7 < 16000) ∧ (∀ u3 : uS, u3 = wr u 246 (u.1 232 7) l1 → (∀ u5 : uS, u5 = wr u3 232 7 ((u3.1 232 7) + 1) → ((rI l1) ∧ ((rI (u5.1 232 2)) ∧ (((u5.1 232 2) ≠ 0) ∧ ((rI (l1.tdiv (u5.1 232 2))) ∧ ((0 ≤ (((l1.tdiv (u5.1 232 2)).tdiv (u5.1 232 2)) * 40) + ((l1.tdiv (u5.1 232 2)).tmod (u5.1 232 2))) ∧ (((((l1.tdiv (u5.1 232 2)).tdiv (u5.1 232 2)) * 40) + ((l1.tdiv (u5.1 232 2)).tmod (u5.1 232 2)) < 400) ∧ (∀ u13 : uS, u13 = wr u5 247 ((((l1.tdiv (u5.1 232 2)).tdiv (u5.1 232 2)) * 40) + ((l1.tdiv (u5.1 232 2)).tmod (u5.1 232 2))) (lor (u5.1 247 ((((l1.tdiv (u5.1 232 2)).tdiv (u5.1 232 2)) * 40) + ((l1.tdiv (u5.1 232 2)).tmod (u5.1 232 2)))) (lshl 1 (l1.tmod (u5.1 232 2)))) → (Q u13)))))))))))) : cV (d + 2) 158 [.ref 232, iV l1] u Q := by
  refine u_of me_158 (Nat.le_of_ble_eq_true rfl) ?_
  refine u_ld (v := .ref 232) (pc := 0) (dec_at lsk_158 (k := 0) rfl) rfl ?_
  refine u_gS (o := 14) (p := 246) (pc := 1) (dec_at lsk_158 (k := 1) rfl) f_11_37 sx_232 rfl rfl ?_
  refine u_ld (v := .ref 232) (pc := 4) (dec_at lsk_158 (k := 2) rfl) rfl ?_
  refine u_gI (z := 7) (pc := 5) (dec_at lsk_158 (k := 3) rfl) f_11_106 sx_232 rfl rfl ?_
  refine u_ld (v := iV l1) (pc := 8) (dec_at lsk_158 (k := 4) rfl) rfl ?_
  have g1 := h.1
  have h := h.2
  have g2 := h.1
  have h := h.2
  refine u_iast (pc := 9) (dec_at lsk_158 (k := 5) rfl) sx_246 g1 g2 (fun u3 e4 => ?_)
  have h := h u3 e4
  refine u_ld (v := .ref 232) (pc := 10) (dec_at lsk_158 (k := 6) rfl) rfl ?_
  refine u_ld (v := .ref 232) (pc := 11) (dec_at lsk_158 (k := 7) rfl) rfl ?_
  refine u_gI (z := 7) (pc := 12) (dec_at lsk_158 (k := 8) rfl) f_11_106 sx_232 rfl rfl ?_
  refine u_ld (v := iV 1) (pc := 15) (dec_at lsk_158 (k := 9) rfl) rfl ?_
  refine u_iadd (pc := 16) (dec_at lsk_158 (k := 10) rfl) ?_
  refine u_pI (z := 7) (pc := 17) (dec_at lsk_158 (k := 11) rfl) f_11_106 sx_232 rfl rfl rfl rfl (fun u5 e6 => ?_)
  have h := h u5 e6
  refine u_ld (v := .ref 232) (pc := 20) (dec_at lsk_158 (k := 12) rfl) rfl ?_
  refine u_gS (o := 15) (p := 247) (pc := 21) (dec_at lsk_158 (k := 13) rfl) f_11_40 sx_232 rfl rfl ?_
  refine u_ld (v := .ref 232) (pc := 24) (dec_at lsk_158 (k := 14) rfl) rfl ?_
  refine u_ld (v := iV l1) (pc := 25) (dec_at lsk_158 (k := 15) rfl) rfl ?_
  refine u_cvI (As := [iV l1]) (rb := 232) (st2 := [.ref 247]) (pc := 26) (dec_at lsk_158 (k := 16) rfl) m_11_167 (Or.inl rfl) rfl (Nat.le_of_ble_eq_true rfl) sx_232 me_149 rfl ?_ (fun _ _ h_ => h_)
  refine u_of me_149 (Nat.le_of_ble_eq_true rfl) ?_
  refine u_ld (v := iV l1) (pc := 0) (dec_at lsk_149 (k := 0) rfl) rfl ?_
  refine u_ld (v := .ref 232) (pc := 1) (dec_at lsk_149 (k := 1) rfl) rfl ?_
  refine u_gI (z := 2) (pc := 2) (dec_at lsk_149 (k := 2) rfl) f_11_25 sx_232 rfl rfl ?_
  have g7 := h.1
  have h := h.2
  have g8 := h.1
  have h := h.2
  have g9 := h.1
  have h := h.2
  refine u_idiv (pc := 5) (dec_at lsk_149 (k := 3) rfl) g7 g8 g9 ?_
  refine u_ld (v := .ref 232) (pc := 6) (dec_at lsk_149 (k := 4) rfl) rfl ?_
  refine u_gI (z := 2) (pc := 7) (dec_at lsk_149 (k := 5) rfl) f_11_25 sx_232 rfl rfl ?_
  have g10 := h.1
  have h := h.2
  refine u_idiv (pc := 10) (dec_at lsk_149 (k := 6) rfl) g10 g8 g9 ?_
  refine u_rI (pc := 11) (dec_at lsk_149 (k := 7) rfl) rfl ?_
  refine u_ld (v := .ref 232) (pc := 29) (dec_at lsk_158 (k := 17) rfl) rfl ?_
  refine u_ld (v := iV l1) (pc := 30) (dec_at lsk_158 (k := 18) rfl) rfl ?_
  refine u_cvI (As := [iV l1]) (rb := 232) (st2 := [iV ((l1.tdiv (u5.1 232 2)).tdiv (u5.1 232 2)), .ref 247]) (pc := 31) (dec_at lsk_158 (k := 19) rfl) m_11_171 (Or.inl rfl) rfl (Nat.le_of_ble_eq_true rfl) sx_232 me_150 rfl ?_ (fun _ _ h_ => h_)
  refine u_of me_150 (Nat.le_of_ble_eq_true rfl) ?_
  refine u_ld (v := iV l1) (pc := 0) (dec_at lsk_150 (k := 0) rfl) rfl ?_
  refine u_ld (v := .ref 232) (pc := 1) (dec_at lsk_150 (k := 1) rfl) rfl ?_
  refine u_gI (z := 2) (pc := 2) (dec_at lsk_150 (k := 2) rfl) f_11_25 sx_232 rfl rfl ?_
  refine u_idiv (pc := 5) (dec_at lsk_150 (k := 3) rfl) g7 g8 g9 ?_
  refine u_ld (v := .ref 232) (pc := 6) (dec_at lsk_150 (k := 4) rfl) rfl ?_
  refine u_gI (z := 2) (pc := 7) (dec_at lsk_150 (k := 5) rfl) f_11_25 sx_232 rfl rfl ?_
  refine u_irem (pc := 10) (dec_at lsk_150 (k := 6) rfl) g10 g8 g9 ?_
  refine u_rI (pc := 11) (dec_at lsk_150 (k := 7) rfl) rfl ?_
  refine u_csI (As := [iV ((l1.tdiv (u5.1 232 2)).tdiv (u5.1 232 2)), iV ((l1.tdiv (u5.1 232 2)).tmod (u5.1 232 2))]) (st2 := [.ref 247]) (pc := 34) (dec_at lsk_158 (k := 20) rfl) m_11_158 (Or.inr rfl) rfl (Nat.le_of_ble_eq_true rfl) ?_ (fun _ _ h_ => h_)
  refine u_of me_141 (Nat.le_of_ble_eq_true rfl) ?_
  refine u_ld (v := iV ((l1.tdiv (u5.1 232 2)).tdiv (u5.1 232 2))) (pc := 0) (dec_at lsk_141 (k := 0) rfl) rfl ?_
  refine u_c (x := 40) (pc := 1) (dec_at lsk_141 (k := 1) rfl) rfl (by decide) ?_
  refine u_imul (pc := 3) (dec_at lsk_141 (k := 2) rfl) ?_
  refine u_ld (v := iV ((l1.tdiv (u5.1 232 2)).tmod (u5.1 232 2))) (pc := 4) (dec_at lsk_141 (k := 3) rfl) rfl ?_
  refine u_iadd (pc := 5) (dec_at lsk_141 (k := 4) rfl) ?_
  refine u_rI (pc := 6) (dec_at lsk_141 (k := 5) rfl) rfl ?_
  refine u_st (st' := [iV ((((l1.tdiv (u5.1 232 2)).tdiv (u5.1 232 2)) * 40) + ((l1.tdiv (u5.1 232 2)).tmod (u5.1 232 2))), .ref 247, iV ((((l1.tdiv (u5.1 232 2)).tdiv (u5.1 232 2)) * 40) + ((l1.tdiv (u5.1 232 2)).tmod (u5.1 232 2))), .ref 247]) (pc := 37) (dec_at lsk_158 (k := 21) rfl) rfl ?_
  have g11 := h.1
  have h := h.2
  have g12 := h.1
  have h := h.2
  refine u_lald (pc := 38) (dec_at lsk_158 (k := 22) rfl) sx_247 g11 g12 ?_
  refine u_cl (x := 1) (pc := 39) (dec_at lsk_158 (k := 23) rfl) rfl (by decide) ?_
  refine u_ld (v := .ref 232) (pc := 40) (dec_at lsk_158 (k := 24) rfl) rfl ?_
  refine u_ld (v := iV l1) (pc := 41) (dec_at lsk_158 (k := 25) rfl) rfl ?_
  refine u_cvI (As := [iV l1]) (rb := 232) (st2 := [lV 1, lV (u5.1 247 ((((l1.tdiv (u5.1 232 2)).tdiv (u5.1 232 2)) * 40) + ((l1.tdiv (u5.1 232 2)).tmod (u5.1 232 2)))), iV ((((l1.tdiv (u5.1 232 2)).tdiv (u5.1 232 2)) * 40) + ((l1.tdiv (u5.1 232 2)).tmod (u5.1 232 2))), .ref 247]) (pc := 42) (dec_at lsk_158 (k := 26) rfl) m_11_174 (Or.inl rfl) rfl (Nat.le_of_ble_eq_true rfl) sx_232 me_151 rfl ?_ (fun _ _ h_ => h_)
  refine u_of me_151 (Nat.le_of_ble_eq_true rfl) ?_
  refine u_ld (v := iV l1) (pc := 0) (dec_at lsk_151 (k := 0) rfl) rfl ?_
  refine u_ld (v := .ref 232) (pc := 1) (dec_at lsk_151 (k := 1) rfl) rfl ?_
  refine u_gI (z := 2) (pc := 2) (dec_at lsk_151 (k := 2) rfl) f_11_25 sx_232 rfl rfl ?_
  refine u_irem (pc := 5) (dec_at lsk_151 (k := 3) rfl) g7 g8 g9 ?_
  refine u_rI (pc := 6) (dec_at lsk_151 (k := 4) rfl) rfl ?_
  refine u_lshl (pc := 45) (dec_at lsk_158 (k := 27) rfl) ?_
  refine u_lor (pc := 46) (dec_at lsk_158 (k := 28) rfl) ?_
  refine u_last (pc := 47) (dec_at lsk_158 (k := 29) rfl) sx_247 g11 g12 (fun u13 e14 => ?_)
  have h := h u13 e14
  exact u_rV (pc := 48) (dec_at lsk_158 (k := 30) rfl) rfl h
/-- method 160 -/
def K_160 (d pc : Nat) (lv : ev_L) (st : List Value) (u : uS) (Q : uS → Prop) : Prop := okU d 11 7 false none prog_9_method_13_code (qV Q) pc lv st u
theorem e_160 {d : Nat} {Q : uS → Prop} {u : uS} {l1 : Int} (h : (rI l1) ∧ ((rI (u.1 232 2)) ∧ (((u.1 232 2) ≠ 0) ∧ ((rI (l1.tdiv (u.1 232 2))) ∧ (K_160 (d + 1) 25 [.ref 232, iV l1, iV (100 + ((l1.tdiv (u.1 232 2)).tdiv (u.1 232 2))), iV ((l1.tdiv (u.1 232 2)).tmod (u.1 232 2)), iV (l1.tmod (u.1 232 2)), iV 0, .retAddr 0] [] u Q))))) : cV (d + 2) 160 [.ref 232, iV l1] u Q := by
  refine u_of me_160 (Nat.le_of_ble_eq_true rfl) ?_
  refine u_c (x := 100) (pc := 0) (dec_at lsk_160 (k := 0) rfl) rfl (by decide) ?_
  refine u_ld (v := .ref 232) (pc := 2) (dec_at lsk_160 (k := 1) rfl) rfl ?_
  refine u_ld (v := iV l1) (pc := 3) (dec_at lsk_160 (k := 2) rfl) rfl ?_
  refine u_cvI (As := [iV l1]) (rb := 232) (st2 := [iV 100]) (pc := 4) (dec_at lsk_160 (k := 3) rfl) m_11_167 (Or.inl rfl) rfl (Nat.le_of_ble_eq_true rfl) sx_232 me_149 rfl ?_ (fun _ _ h_ => h_)
  refine u_of me_149 (Nat.le_of_ble_eq_true rfl) ?_
  refine u_ld (v := iV l1) (pc := 0) (dec_at lsk_149 (k := 0) rfl) rfl ?_
  refine u_ld (v := .ref 232) (pc := 1) (dec_at lsk_149 (k := 1) rfl) rfl ?_
  refine u_gI (z := 2) (pc := 2) (dec_at lsk_149 (k := 2) rfl) f_11_25 sx_232 rfl rfl ?_
  have g1 := h.1
  have h := h.2
  have g2 := h.1
  have h := h.2
  have g3 := h.1
  have h := h.2
  refine u_idiv (pc := 5) (dec_at lsk_149 (k := 3) rfl) g1 g2 g3 ?_
  refine u_ld (v := .ref 232) (pc := 6) (dec_at lsk_149 (k := 4) rfl) rfl ?_
  refine u_gI (z := 2) (pc := 7) (dec_at lsk_149 (k := 5) rfl) f_11_25 sx_232 rfl rfl ?_
  have g4 := h.1
  have h := h.2
  refine u_idiv (pc := 10) (dec_at lsk_149 (k := 6) rfl) g4 g2 g3 ?_
  refine u_rI (pc := 11) (dec_at lsk_149 (k := 7) rfl) rfl ?_
  refine u_iadd (pc := 7) (dec_at lsk_160 (k := 4) rfl) ?_
  refine u_sto (lv' := [.ref 232, iV l1, iV (100 + ((l1.tdiv (u.1 232 2)).tdiv (u.1 232 2))), .retAddr 0, .retAddr 0, .retAddr 0, .retAddr 0]) (pc := 8) (dec_at lsk_160 (k := 5) rfl) rfl ?_
  refine u_ld (v := .ref 232) (pc := 9) (dec_at lsk_160 (k := 6) rfl) rfl ?_
  refine u_ld (v := iV l1) (pc := 10) (dec_at lsk_160 (k := 7) rfl) rfl ?_
  refine u_cvI (As := [iV l1]) (rb := 232) (st2 := []) (pc := 11) (dec_at lsk_160 (k := 8) rfl) m_11_171 (Or.inl rfl) rfl (Nat.le_of_ble_eq_true rfl) sx_232 me_150 rfl ?_ (fun _ _ h_ => h_)
  refine u_of me_150 (Nat.le_of_ble_eq_true rfl) ?_
  refine u_ld (v := iV l1) (pc := 0) (dec_at lsk_150 (k := 0) rfl) rfl ?_
  refine u_ld (v := .ref 232) (pc := 1) (dec_at lsk_150 (k := 1) rfl) rfl ?_
  refine u_gI (z := 2) (pc := 2) (dec_at lsk_150 (k := 2) rfl) f_11_25 sx_232 rfl rfl ?_
  refine u_idiv (pc := 5) (dec_at lsk_150 (k := 3) rfl) g1 g2 g3 ?_
  refine u_ld (v := .ref 232) (pc := 6) (dec_at lsk_150 (k := 4) rfl) rfl ?_
  refine u_gI (z := 2) (pc := 7) (dec_at lsk_150 (k := 5) rfl) f_11_25 sx_232 rfl rfl ?_
  refine u_irem (pc := 10) (dec_at lsk_150 (k := 6) rfl) g4 g2 g3 ?_
  refine u_rI (pc := 11) (dec_at lsk_150 (k := 7) rfl) rfl ?_
  refine u_sto (lv' := [.ref 232, iV l1, iV (100 + ((l1.tdiv (u.1 232 2)).tdiv (u.1 232 2))), iV ((l1.tdiv (u.1 232 2)).tmod (u.1 232 2)), .retAddr 0, .retAddr 0, .retAddr 0]) (pc := 14) (dec_at lsk_160 (k := 9) rfl) rfl ?_
  refine u_ld (v := .ref 232) (pc := 15) (dec_at lsk_160 (k := 10) rfl) rfl ?_
  refine u_ld (v := iV l1) (pc := 16) (dec_at lsk_160 (k := 11) rfl) rfl ?_
  refine u_cvI (As := [iV l1]) (rb := 232) (st2 := []) (pc := 17) (dec_at lsk_160 (k := 12) rfl) m_11_174 (Or.inl rfl) rfl (Nat.le_of_ble_eq_true rfl) sx_232 me_151 rfl ?_ (fun _ _ h_ => h_)
  refine u_of me_151 (Nat.le_of_ble_eq_true rfl) ?_
  refine u_ld (v := iV l1) (pc := 0) (dec_at lsk_151 (k := 0) rfl) rfl ?_
  refine u_ld (v := .ref 232) (pc := 1) (dec_at lsk_151 (k := 1) rfl) rfl ?_
  refine u_gI (z := 2) (pc := 2) (dec_at lsk_151 (k := 2) rfl) f_11_25 sx_232 rfl rfl ?_
  refine u_irem (pc := 5) (dec_at lsk_151 (k := 3) rfl) g1 g2 g3 ?_
  refine u_rI (pc := 6) (dec_at lsk_151 (k := 4) rfl) rfl ?_
  refine u_sto (lv' := [.ref 232, iV l1, iV (100 + ((l1.tdiv (u.1 232 2)).tdiv (u.1 232 2))), iV ((l1.tdiv (u.1 232 2)).tmod (u.1 232 2)), iV (l1.tmod (u.1 232 2)), .retAddr 0, .retAddr 0]) (pc := 20) (dec_at lsk_160 (k := 13) rfl) rfl ?_
  refine u_ld (v := iV 0) (pc := 22) (dec_at lsk_160 (k := 14) rfl) rfl ?_
  refine u_sto (lv' := [.ref 232, iV l1, iV (100 + ((l1.tdiv (u.1 232 2)).tdiv (u.1 232 2))), iV ((l1.tdiv (u.1 232 2)).tmod (u.1 232 2)), iV (l1.tmod (u.1 232 2)), iV 0, .retAddr 0]) (pc := 23) (dec_at lsk_160 (k := 15) rfl) rfl ?_
  exact h
theorem k_160_25 {d : Nat} {Q : uS → Prop} {u : uS} {l1 l2 l3 l4 l5 : Int} (h : (isO (u.2 232 0) 2) ∧ ((rI l5) ∧ ((rI (u.1 (u.2 232 0) 1)) ∧ (if l5 < u.1 (u.2 232 0) 1 then (K_160 (d + 1) 40 [.ref 232, iV l1, iV l2, iV l3, iV l4, iV l5, iV 0] [] u Q) else (Q u))))) : K_160 (d + 1) 25 [.ref 232, iV l1, iV l2, iV l3, iV l4, iV l5, .retAddr 0] [] u Q := by
  unfold K_160
  refine u_ld (v := iV l5) (pc := 25) (dec_at lsk_160 (k := 16) rfl) rfl ?_
  refine u_ld (v := .ref 232) (pc := 27) (dec_at lsk_160 (k := 17) rfl) rfl ?_
  refine u_gR (z := 0) (pc := 28) (dec_at lsk_160 (k := 18) rfl) f_11_12 sx_232 rfl rfl ?_
  have g1 := h.1
  have h := h.2
  refine u_gI (z := 1) (pc := 31) (dec_at lsk_160 (k := 19) rfl) f_11_69 g1 rfl rfl ?_
  have g2 := h.1
  have h := h.2
  have g3 := h.1
  have h := h.2
  refine u_icF (pc := 34) (tgt := 124) (dec_at lsk_160 (k := 20) rfl) rfl (ci_ge g2 g3) (fun e4 => ?_) (fun e4 => ?_)
  · have h := ifT e4 h
    refine u_ld (v := iV 0) (pc := 37) (dec_at lsk_160 (k := 21) rfl) rfl ?_
    refine u_sto (lv' := [.ref 232, iV l1, iV l2, iV l3, iV l4, iV l5, iV 0]) (pc := 38) (dec_at lsk_160 (k := 22) rfl) rfl ?_
    exact h
  · have h := ifF e4 h
    exact u_rV (pc := 124) (dec_at lsk_160 (k := 64) rfl) rfl h
theorem k_160_40 {d : Nat} {Q : uS → Prop} {u : uS} {l1 l2 l3 l4 l5 l6 : Int} (h : (isO (u.2 232 0) 2) ∧ ((0 ≤ l5) ∧ ((l5 < 30) ∧ ((rI l6) ∧ ((rI (u.1 ((u.2 232 0) + 3) l5)) ∧ (if l6 < u.1 ((u.2 232 0) + 3) l5 then ((0 ≤ (l5 * 6) + l6) ∧ (((l5 * 6) + l6 < 180) ∧ ((rI (u.1 ((u.2 232 0) + 4) ((l5 * 6) + l6))) ∧ ((rI l2) ∧ (if u.1 ((u.2 232 0) + 4) ((l5 * 6) + l6) = l2 then (if l6 = 0 then ((0 ≤ l1) ∧ ((l1 < 16000) ∧ (cV (d + 1) 146 [.ref 232, iV l5, iV 1, iV l3, iV l4, lV (u.1 244 l1), iV (u.1 245 l1)] u (fun u15 => K_160 (d + 1) 40 [.ref 232, iV l1, iV l2, iV l3, iV l4, iV l5, iV (l6 + 1)] [] u15 Q)))) else (cV (d + 1) 161 [.ref 232, iV l5, iV l6, iV l1] u (fun u16 => K_160 (d + 1) 40 [.ref 232, iV l1, iV l2, iV l3, iV l4, iV l5, iV (l6 + 1)] [] u16 Q))) else (K_160 (d + 1) 40 [.ref 232, iV l1, iV l2, iV l3, iV l4, iV l5, iV (l6 + 1)] [] u Q)))))) else (K_160 (d + 1) 25 [.ref 232, iV l1, iV l2, iV l3, iV l4, iV (l5 + 1), .retAddr 0] [] u Q))))))) : K_160 (d + 1) 40 [.ref 232, iV l1, iV l2, iV l3, iV l4, iV l5, iV l6] [] u Q := by
  unfold K_160
  refine u_ld (v := iV l6) (pc := 40) (dec_at lsk_160 (k := 23) rfl) rfl ?_
  refine u_ld (v := .ref 232) (pc := 42) (dec_at lsk_160 (k := 24) rfl) rfl ?_
  refine u_gR (z := 0) (pc := 43) (dec_at lsk_160 (k := 25) rfl) f_11_12 sx_232 rfl rfl ?_
  have g1 := h.1
  have h := h.2
  refine u_gS (o := 3) (p := (u.2 232 0) + 3) (pc := 46) (dec_at lsk_160 (k := 26) rfl) f_11_109 g1 rfl rfl ?_
  refine u_ld (v := iV l5) (pc := 49) (dec_at lsk_160 (k := 27) rfl) rfl ?_
  have g2 := h.1
  have h := h.2
  have g3 := h.1
  have h := h.2
  refine u_iald (pc := 51) (dec_at lsk_160 (k := 28) rfl) (sa_2_4 g1) g2 g3 ?_
  have g4 := h.1
  have h := h.2
  have g5 := h.1
  have h := h.2
  refine u_icF (pc := 52) (tgt := 118) (dec_at lsk_160 (k := 29) rfl) rfl (ci_ge g4 g5) (fun e6 => ?_) (fun e6 => ?_)
  · have h := ifT e6 h
    refine u_ld (v := .ref 232) (pc := 55) (dec_at lsk_160 (k := 30) rfl) rfl ?_
    refine u_gR (z := 0) (pc := 56) (dec_at lsk_160 (k := 31) rfl) f_11_12 sx_232 rfl rfl ?_
    refine u_ld (v := iV l5) (pc := 59) (dec_at lsk_160 (k := 32) rfl) rfl ?_
    refine u_ld (v := iV l6) (pc := 61) (dec_at lsk_160 (k := 33) rfl) rfl ?_
    refine u_cvI (As := [iV l5, iV l6]) (rb := u.2 232 0) (st2 := []) (pc := 63) (dec_at lsk_160 (k := 34) rfl) m_11_152 (Or.inl rfl) rfl (Nat.le_of_ble_eq_true rfl) g1 me_42 rfl ?_ (fun _ _ h_ => h_)
    refine u_of me_42 (Nat.le_of_ble_eq_true rfl) ?_
    refine u_ld (v := .ref (u.2 232 0)) (pc := 0) (dec_at lsk_42 (k := 0) rfl) rfl ?_
    refine u_gS (o := 4) (p := (u.2 232 0) + 4) (pc := 1) (dec_at lsk_42 (k := 1) rfl) f_2_21 g1 rfl rfl ?_
    refine u_ld (v := iV l5) (pc := 4) (dec_at lsk_42 (k := 2) rfl) rfl ?_
    refine u_c (x := 6) (pc := 5) (dec_at lsk_42 (k := 3) rfl) rfl (by decide) ?_
    refine u_imul (pc := 7) (dec_at lsk_42 (k := 4) rfl) ?_
    refine u_ld (v := iV l6) (pc := 8) (dec_at lsk_42 (k := 5) rfl) rfl ?_
    refine u_iadd (pc := 9) (dec_at lsk_42 (k := 6) rfl) ?_
    have g7 := h.1
    have h := h.2
    have g8 := h.1
    have h := h.2
    refine u_iald (pc := 10) (dec_at lsk_42 (k := 7) rfl) (sa_2_5 g1) g7 g8 ?_
    refine u_rI (pc := 11) (dec_at lsk_42 (k := 8) rfl) rfl ?_
    refine u_ld (v := iV l2) (pc := 66) (dec_at lsk_160 (k := 35) rfl) rfl ?_
    have g9 := h.1
    have h := h.2
    have g10 := h.1
    have h := h.2
    refine u_icT (pc := 67) (tgt := 73) (dec_at lsk_160 (k := 36) rfl) rfl (ci_eq g9 g10) (fun e11 => ?_) (fun e11 => ?_)
    · have h := ifT e11 h
      refine u_ld (v := iV l6) (pc := 73) (dec_at lsk_160 (k := 38) rfl) rfl ?_
      refine u_ifF (pc := 75) (tgt := 103) (dec_at lsk_160 (k := 39) rfl) rfl (c0_ne g4) (fun e12 => ?_) (fun e12 => ?_)
      · have h := ifT e12 h
        refine u_ld (v := .ref 232) (pc := 78) (dec_at lsk_160 (k := 40) rfl) rfl ?_
        refine u_ld (v := iV l5) (pc := 79) (dec_at lsk_160 (k := 41) rfl) rfl ?_
        refine u_ld (v := iV 1) (pc := 81) (dec_at lsk_160 (k := 42) rfl) rfl ?_
        refine u_ld (v := iV l3) (pc := 82) (dec_at lsk_160 (k := 43) rfl) rfl ?_
        refine u_ld (v := iV l4) (pc := 83) (dec_at lsk_160 (k := 44) rfl) rfl ?_
        refine u_ld (v := .ref 232) (pc := 85) (dec_at lsk_160 (k := 45) rfl) rfl ?_
        refine u_gS (o := 12) (p := 244) (pc := 86) (dec_at lsk_160 (k := 46) rfl) f_11_29 sx_232 rfl rfl ?_
        refine u_ld (v := iV l1) (pc := 89) (dec_at lsk_160 (k := 47) rfl) rfl ?_
        have g13 := h.1
        have h := h.2
        have g14 := h.1
        have h := h.2
        refine u_lald (pc := 90) (dec_at lsk_160 (k := 48) rfl) sx_244 g13 g14 ?_
        refine u_ld (v := .ref 232) (pc := 91) (dec_at lsk_160 (k := 49) rfl) rfl ?_
        refine u_gS (o := 13) (p := 245) (pc := 92) (dec_at lsk_160 (k := 50) rfl) f_11_33 sx_232 rfl rfl ?_
        refine u_ld (v := iV l1) (pc := 95) (dec_at lsk_160 (k := 51) rfl) rfl ?_
        refine u_iald (pc := 96) (dec_at lsk_160 (k := 52) rfl) sx_245 g13 g14 ?_
        refine u_cvV (As := [iV l5, iV 1, iV l3, iV l4, lV (u.1 244 l1), iV (u.1 245 l1)]) (rb := 232) (st2 := []) (pc := 97) (dec_at lsk_160 (k := 53) rfl) m_11_71 (Or.inl rfl) rfl (Nat.le_of_ble_eq_true rfl) sx_232 me_146 rfl h (fun u15 h => ?_)
        refine u_goto (pc := 100) (tgt := 112) (dec_at lsk_160 (k := 54) rfl) rfl ?_
        refine u_inc (lv' := [.ref 232, iV l1, iV l2, iV l3, iV l4, iV l5, iV (l6 + 1)]) (pc := 112) (dec_at lsk_160 (k := 60) rfl) rfl (by decide) rfl ?_
        refine u_goto (pc := 115) (tgt := 40) (dec_at lsk_160 (k := 61) rfl) rfl ?_
        exact h
      · have h := ifF e12 h
        refine u_ld (v := .ref 232) (pc := 103) (dec_at lsk_160 (k := 55) rfl) rfl ?_
        refine u_ld (v := iV l5) (pc := 104) (dec_at lsk_160 (k := 56) rfl) rfl ?_
        refine u_ld (v := iV l6) (pc := 106) (dec_at lsk_160 (k := 57) rfl) rfl ?_
        refine u_ld (v := iV l1) (pc := 108) (dec_at lsk_160 (k := 58) rfl) rfl ?_
        refine u_cvV (As := [iV l5, iV l6, iV l1]) (rb := 232) (st2 := []) (pc := 109) (dec_at lsk_160 (k := 59) rfl) m_11_177 (Or.inl rfl) rfl (Nat.le_of_ble_eq_true rfl) sx_232 me_161 rfl h (fun u16 h => ?_)
        refine u_inc (lv' := [.ref 232, iV l1, iV l2, iV l3, iV l4, iV l5, iV (l6 + 1)]) (pc := 112) (dec_at lsk_160 (k := 60) rfl) rfl (by decide) rfl ?_
        refine u_goto (pc := 115) (tgt := 40) (dec_at lsk_160 (k := 61) rfl) rfl ?_
        exact h
    · have h := ifF e11 h
      refine u_goto (pc := 70) (tgt := 112) (dec_at lsk_160 (k := 37) rfl) rfl ?_
      refine u_inc (lv' := [.ref 232, iV l1, iV l2, iV l3, iV l4, iV l5, iV (l6 + 1)]) (pc := 112) (dec_at lsk_160 (k := 60) rfl) rfl (by decide) rfl ?_
      refine u_goto (pc := 115) (tgt := 40) (dec_at lsk_160 (k := 61) rfl) rfl ?_
      exact h
  · have h := ifF e6 h
    refine u_inc (lv' := [.ref 232, iV l1, iV l2, iV l3, iV l4, iV (l5 + 1), iV l6]) (pc := 118) (dec_at lsk_160 (k := 62) rfl) rfl (by decide) rfl ?_
    refine u_goto (pc := 121) (tgt := 25) (dec_at lsk_160 (k := 63) rfl) rfl ?_
    exact u_weak (sbK (sbK (sbK (sbK (sbK (sbK (sbD sb0))))))) h
/-- method 161 -/
def K_161 (d pc : Nat) (lv : ev_L) (st : List Value) (u : uS) (Q : uS → Prop) : Prop := okU d 11 8 false none prog_9_method_14_code (qV Q) pc lv st u
theorem e_161 {d : Nat} {Q : uS → Prop} {u : uS} {l1 l2 l3 : Int} (h : (rI l3) ∧ ((rI (u.1 232 2)) ∧ (((u.1 232 2) ≠ 0) ∧ ((rI (l3.tdiv (u.1 232 2))) ∧ (K_161 (d + 1) 17 [.ref 232, iV l1, iV l2, iV l3, iV ((l3.tdiv (u.1 232 2)).tmod (u.1 232 2)), iV (l3.tmod (u.1 232 2)), iV 0, .retAddr 0] [] u Q))))) : cV (d + 2) 161 [.ref 232, iV l1, iV l2, iV l3] u Q := by
  refine u_of me_161 (Nat.le_of_ble_eq_true rfl) ?_
  refine u_ld (v := .ref 232) (pc := 0) (dec_at lsk_161 (k := 0) rfl) rfl ?_
  refine u_ld (v := iV l3) (pc := 1) (dec_at lsk_161 (k := 1) rfl) rfl ?_
  refine u_cvI (As := [iV l3]) (rb := 232) (st2 := []) (pc := 2) (dec_at lsk_161 (k := 2) rfl) m_11_171 (Or.inl rfl) rfl (Nat.le_of_ble_eq_true rfl) sx_232 me_150 rfl ?_ (fun _ _ h_ => h_)
  refine u_of me_150 (Nat.le_of_ble_eq_true rfl) ?_
  refine u_ld (v := iV l3) (pc := 0) (dec_at lsk_150 (k := 0) rfl) rfl ?_
  refine u_ld (v := .ref 232) (pc := 1) (dec_at lsk_150 (k := 1) rfl) rfl ?_
  refine u_gI (z := 2) (pc := 2) (dec_at lsk_150 (k := 2) rfl) f_11_25 sx_232 rfl rfl ?_
  have g1 := h.1
  have h := h.2
  have g2 := h.1
  have h := h.2
  have g3 := h.1
  have h := h.2
  refine u_idiv (pc := 5) (dec_at lsk_150 (k := 3) rfl) g1 g2 g3 ?_
  refine u_ld (v := .ref 232) (pc := 6) (dec_at lsk_150 (k := 4) rfl) rfl ?_
  refine u_gI (z := 2) (pc := 7) (dec_at lsk_150 (k := 5) rfl) f_11_25 sx_232 rfl rfl ?_
  have g4 := h.1
  have h := h.2
  refine u_irem (pc := 10) (dec_at lsk_150 (k := 6) rfl) g4 g2 g3 ?_
  refine u_rI (pc := 11) (dec_at lsk_150 (k := 7) rfl) rfl ?_
  refine u_sto (lv' := [.ref 232, iV l1, iV l2, iV l3, iV ((l3.tdiv (u.1 232 2)).tmod (u.1 232 2)), .retAddr 0, .retAddr 0, .retAddr 0]) (pc := 5) (dec_at lsk_161 (k := 3) rfl) rfl ?_
  refine u_ld (v := .ref 232) (pc := 7) (dec_at lsk_161 (k := 4) rfl) rfl ?_
  refine u_ld (v := iV l3) (pc := 8) (dec_at lsk_161 (k := 5) rfl) rfl ?_
  refine u_cvI (As := [iV l3]) (rb := 232) (st2 := []) (pc := 9) (dec_at lsk_161 (k := 6) rfl) m_11_174 (Or.inl rfl) rfl (Nat.le_of_ble_eq_true rfl) sx_232 me_151 rfl ?_ (fun _ _ h_ => h_)
  refine u_of me_151 (Nat.le_of_ble_eq_true rfl) ?_
  refine u_ld (v := iV l3) (pc := 0) (dec_at lsk_151 (k := 0) rfl) rfl ?_
  refine u_ld (v := .ref 232) (pc := 1) (dec_at lsk_151 (k := 1) rfl) rfl ?_
  refine u_gI (z := 2) (pc := 2) (dec_at lsk_151 (k := 2) rfl) f_11_25 sx_232 rfl rfl ?_
  refine u_irem (pc := 5) (dec_at lsk_151 (k := 3) rfl) g1 g2 g3 ?_
  refine u_rI (pc := 6) (dec_at lsk_151 (k := 4) rfl) rfl ?_
  refine u_sto (lv' := [.ref 232, iV l1, iV l2, iV l3, iV ((l3.tdiv (u.1 232 2)).tmod (u.1 232 2)), iV (l3.tmod (u.1 232 2)), .retAddr 0, .retAddr 0]) (pc := 12) (dec_at lsk_161 (k := 7) rfl) rfl ?_
  refine u_ld (v := iV 0) (pc := 14) (dec_at lsk_161 (k := 8) rfl) rfl ?_
  refine u_sto (lv' := [.ref 232, iV l1, iV l2, iV l3, iV ((l3.tdiv (u.1 232 2)).tmod (u.1 232 2)), iV (l3.tmod (u.1 232 2)), iV 0, .retAddr 0]) (pc := 15) (dec_at lsk_161 (k := 9) rfl) rfl ?_
  exact h
theorem k_161_17 {d : Nat} {Q : uS → Prop} {u : uS} {l1 l2 l3 l4 l5 l6 : Int} (h : (rI l6) ∧ ((rI (u.1 232 2)) ∧ (if l6 < u.1 232 2 then ((0 ≤ l1) ∧ ((l1 < 30) ∧ ((0 ≤ ((u.1 252 l1) + ((((l2 - 1) * (u.1 232 2)) + l6) * (u.1 232 2))) + l4) ∧ ((((u.1 252 l1) + ((((l2 - 1) * (u.1 232 2)) + l6) * (u.1 232 2))) + l4 < 240000) ∧ ((rL (u.1 250 (((u.1 252 l1) + ((((l2 - 1) * (u.1 232 2)) + l6) * (u.1 232 2))) + l4))) ∧ (if u.1 250 (((u.1 252 l1) + ((((l2 - 1) * (u.1 232 2)) + l6) * (u.1 232 2))) + l4) = 9000000000000000000 then (K_161 (d + 1) 17 [.ref 232, iV l1, iV l2, iV l3, iV l4, iV l5, iV (l6 + 1), .retAddr 0] [] u Q) else ((0 ≤ l3) ∧ ((l3 < 16000) ∧ ((rI (u.1 251 (((u.1 252 l1) + ((((l2 - 1) * (u.1 232 2)) + l6) * (u.1 232 2))) + l4))) ∧ ((rI (u.1 245 l3)) ∧ (cV (d + 1) 146 [.ref 232, iV l1, iV (l2 + 1), iV l6, iV l5, lV ((u.1 250 (((u.1 252 l1) + ((((l2 - 1) * (u.1 232 2)) + l6) * (u.1 232 2))) + l4)) + (u.1 244 l3)), iV (max (u.1 251 (((u.1 252 l1) + ((((l2 - 1) * (u.1 232 2)) + l6) * (u.1 232 2))) + l4)) (u.1 245 l3))] u (fun u14 => K_161 (d + 1) 17 [.ref 232, iV l1, iV l2, iV l3, iV l4, iV l5, iV (l6 + 1), .retAddr 0] [] u14 Q)))))))))))) else (Q u)))) : K_161 (d + 1) 17 [.ref 232, iV l1, iV l2, iV l3, iV l4, iV l5, iV l6, .retAddr 0] [] u Q := by
  unfold K_161
  refine u_ld (v := iV l6) (pc := 17) (dec_at lsk_161 (k := 10) rfl) rfl ?_
  refine u_ld (v := .ref 232) (pc := 19) (dec_at lsk_161 (k := 11) rfl) rfl ?_
  refine u_gI (z := 2) (pc := 20) (dec_at lsk_161 (k := 12) rfl) f_11_25 sx_232 rfl rfl ?_
  have g1 := h.1
  have h := h.2
  have g2 := h.1
  have h := h.2
  refine u_icF (pc := 23) (tgt := 100) (dec_at lsk_161 (k := 13) rfl) rfl (ci_ge g1 g2) (fun e3 => ?_) (fun e3 => ?_)
  · have h := ifT e3 h
    refine u_ld (v := .ref 232) (pc := 26) (dec_at lsk_161 (k := 14) rfl) rfl ?_
    refine u_ld (v := iV l1) (pc := 27) (dec_at lsk_161 (k := 15) rfl) rfl ?_
    refine u_ld (v := iV l2) (pc := 28) (dec_at lsk_161 (k := 16) rfl) rfl ?_
    refine u_ld (v := iV l6) (pc := 29) (dec_at lsk_161 (k := 17) rfl) rfl ?_
    refine u_ld (v := iV l4) (pc := 31) (dec_at lsk_161 (k := 18) rfl) rfl ?_
    refine u_cvI (As := [iV l1, iV l2, iV l6, iV l4]) (rb := 232) (st2 := []) (pc := 33) (dec_at lsk_161 (k := 19) rfl) m_11_144 (Or.inl rfl) rfl (Nat.le_of_ble_eq_true rfl) sx_232 me_155 rfl ?_ (fun _ _ h_ => h_)
    refine u_of me_155 (Nat.le_of_ble_eq_true rfl) ?_
    refine u_ld (v := .ref 232) (pc := 0) (dec_at lsk_155 (k := 0) rfl) rfl ?_
    refine u_gS (o := 20) (p := 252) (pc := 1) (dec_at lsk_155 (k := 1) rfl) f_11_56 sx_232 rfl rfl ?_
    refine u_ld (v := iV l1) (pc := 4) (dec_at lsk_155 (k := 2) rfl) rfl ?_
    have g4 := h.1
    have h := h.2
    have g5 := h.1
    have h := h.2
    refine u_iald (pc := 5) (dec_at lsk_155 (k := 3) rfl) sx_252 g4 g5 ?_
    refine u_ld (v := iV l2) (pc := 6) (dec_at lsk_155 (k := 4) rfl) rfl ?_
    refine u_ld (v := iV 1) (pc := 7) (dec_at lsk_155 (k := 5) rfl) rfl ?_
    refine u_isub (pc := 8) (dec_at lsk_155 (k := 6) rfl) ?_
    refine u_ld (v := .ref 232) (pc := 9) (dec_at lsk_155 (k := 7) rfl) rfl ?_
    refine u_gI (z := 2) (pc := 10) (dec_at lsk_155 (k := 8) rfl) f_11_25 sx_232 rfl rfl ?_
    refine u_imul (pc := 13) (dec_at lsk_155 (k := 9) rfl) ?_
    refine u_ld (v := iV l6) (pc := 14) (dec_at lsk_155 (k := 10) rfl) rfl ?_
    refine u_iadd (pc := 15) (dec_at lsk_155 (k := 11) rfl) ?_
    refine u_ld (v := .ref 232) (pc := 16) (dec_at lsk_155 (k := 12) rfl) rfl ?_
    refine u_gI (z := 2) (pc := 17) (dec_at lsk_155 (k := 13) rfl) f_11_25 sx_232 rfl rfl ?_
    refine u_imul (pc := 20) (dec_at lsk_155 (k := 14) rfl) ?_
    refine u_iadd (pc := 21) (dec_at lsk_155 (k := 15) rfl) ?_
    refine u_ld (v := iV l4) (pc := 22) (dec_at lsk_155 (k := 16) rfl) rfl ?_
    refine u_iadd (pc := 24) (dec_at lsk_155 (k := 17) rfl) ?_
    refine u_rI (pc := 25) (dec_at lsk_155 (k := 18) rfl) rfl ?_
    refine u_sto (lv' := [.ref 232, iV l1, iV l2, iV l3, iV l4, iV l5, iV l6, iV (((u.1 252 l1) + ((((l2 - 1) * (u.1 232 2)) + l6) * (u.1 232 2))) + l4)]) (pc := 36) (dec_at lsk_161 (k := 20) rfl) rfl ?_
    refine u_ld (v := .ref 232) (pc := 38) (dec_at lsk_161 (k := 21) rfl) rfl ?_
    refine u_gS (o := 18) (p := 250) (pc := 39) (dec_at lsk_161 (k := 22) rfl) f_11_50 sx_232 rfl rfl ?_
    refine u_ld (v := iV (((u.1 252 l1) + ((((l2 - 1) * (u.1 232 2)) + l6) * (u.1 232 2))) + l4)) (pc := 42) (dec_at lsk_161 (k := 23) rfl) rfl ?_
    have g6 := h.1
    have h := h.2
    have g7 := h.1
    have h := h.2
    refine u_lald (pc := 44) (dec_at lsk_161 (k := 24) rfl) sx_250 g6 g7 ?_
    refine u_ldc2 (x := 9000000000000000000) (pc := 45) (dec_at lsk_161 (k := 25) rfl) con_11_111 (by decide) ?_
    refine u_st (st' := [.int (lg_cmp (Int64.ofInt (u.1 250 (((u.1 252 l1) + ((((l2 - 1) * (u.1 232 2)) + l6) * (u.1 232 2))) + l4))) (Int64.ofInt 9000000000000000000))]) (pc := 48) (dec_at lsk_161 (k := 26) rfl) rfl ?_
    have g8 := h.1
    have h := h.2
    refine u_ifT (pc := 49) (tgt := 94) (dec_at lsk_161 (k := 27) rfl) rfl (cl_eq g8 (by decide)) (fun e9 => ?_) (fun e9 => ?_)
    · have h := ifT e9 h
      refine u_inc (lv' := [.ref 232, iV l1, iV l2, iV l3, iV l4, iV l5, iV (l6 + 1), iV (((u.1 252 l1) + ((((l2 - 1) * (u.1 232 2)) + l6) * (u.1 232 2))) + l4)]) (pc := 94) (dec_at lsk_161 (k := 54) rfl) rfl (by decide) rfl ?_
      refine u_goto (pc := 97) (tgt := 17) (dec_at lsk_161 (k := 55) rfl) rfl ?_
      exact u_weak (sbK (sbK (sbK (sbK (sbK (sbK (sbK (sbD sb0)))))))) h
    · have h := ifF e9 h
      refine u_ld (v := .ref 232) (pc := 52) (dec_at lsk_161 (k := 28) rfl) rfl ?_
      refine u_ld (v := iV l1) (pc := 53) (dec_at lsk_161 (k := 29) rfl) rfl ?_
      refine u_ld (v := iV l2) (pc := 54) (dec_at lsk_161 (k := 30) rfl) rfl ?_
      refine u_ld (v := iV 1) (pc := 55) (dec_at lsk_161 (k := 31) rfl) rfl ?_
      refine u_iadd (pc := 56) (dec_at lsk_161 (k := 32) rfl) ?_
      refine u_ld (v := iV l6) (pc := 57) (dec_at lsk_161 (k := 33) rfl) rfl ?_
      refine u_ld (v := iV l5) (pc := 59) (dec_at lsk_161 (k := 34) rfl) rfl ?_
      refine u_ld (v := .ref 232) (pc := 61) (dec_at lsk_161 (k := 35) rfl) rfl ?_
      refine u_gS (o := 18) (p := 250) (pc := 62) (dec_at lsk_161 (k := 36) rfl) f_11_50 sx_232 rfl rfl ?_
      refine u_ld (v := iV (((u.1 252 l1) + ((((l2 - 1) * (u.1 232 2)) + l6) * (u.1 232 2))) + l4)) (pc := 65) (dec_at lsk_161 (k := 37) rfl) rfl ?_
      refine u_lald (pc := 67) (dec_at lsk_161 (k := 38) rfl) sx_250 g6 g7 ?_
      refine u_ld (v := .ref 232) (pc := 68) (dec_at lsk_161 (k := 39) rfl) rfl ?_
      refine u_gS (o := 12) (p := 244) (pc := 69) (dec_at lsk_161 (k := 40) rfl) f_11_29 sx_232 rfl rfl ?_
      refine u_ld (v := iV l3) (pc := 72) (dec_at lsk_161 (k := 41) rfl) rfl ?_
      have g10 := h.1
      have h := h.2
      have g11 := h.1
      have h := h.2
      refine u_lald (pc := 73) (dec_at lsk_161 (k := 42) rfl) sx_244 g10 g11 ?_
      refine u_ladd (pc := 74) (dec_at lsk_161 (k := 43) rfl) ?_
      refine u_ld (v := .ref 232) (pc := 75) (dec_at lsk_161 (k := 44) rfl) rfl ?_
      refine u_gS (o := 19) (p := 251) (pc := 76) (dec_at lsk_161 (k := 45) rfl) f_11_53 sx_232 rfl rfl ?_
      refine u_ld (v := iV (((u.1 252 l1) + ((((l2 - 1) * (u.1 232 2)) + l6) * (u.1 232 2))) + l4)) (pc := 79) (dec_at lsk_161 (k := 46) rfl) rfl ?_
      refine u_iald (pc := 81) (dec_at lsk_161 (k := 47) rfl) sx_251 g6 g7 ?_
      refine u_ld (v := .ref 232) (pc := 82) (dec_at lsk_161 (k := 48) rfl) rfl ?_
      refine u_gS (o := 13) (p := 245) (pc := 83) (dec_at lsk_161 (k := 49) rfl) f_11_33 sx_232 rfl rfl ?_
      refine u_ld (v := iV l3) (pc := 86) (dec_at lsk_161 (k := 50) rfl) rfl ?_
      refine u_iald (pc := 87) (dec_at lsk_161 (k := 51) rfl) sx_245 g10 g11 ?_
      have g12 := h.1
      have h := h.2
      have g13 := h.1
      have h := h.2
      refine u_max (pc := 88) (dec_at lsk_161 (k := 52) rfl) m_11_100 g12 g13 (Nat.le_of_ble_eq_true rfl) ?_
      refine u_cvV (As := [iV l1, iV (l2 + 1), iV l6, iV l5, lV ((u.1 250 (((u.1 252 l1) + ((((l2 - 1) * (u.1 232 2)) + l6) * (u.1 232 2))) + l4)) + (u.1 244 l3)), iV (max (u.1 251 (((u.1 252 l1) + ((((l2 - 1) * (u.1 232 2)) + l6) * (u.1 232 2))) + l4)) (u.1 245 l3))]) (rb := 232) (st2 := []) (pc := 91) (dec_at lsk_161 (k := 53) rfl) m_11_71 (Or.inl rfl) rfl (Nat.le_of_ble_eq_true rfl) sx_232 me_146 rfl h (fun u14 h => ?_)
      refine u_inc (lv' := [.ref 232, iV l1, iV l2, iV l3, iV l4, iV l5, iV (l6 + 1), iV (((u.1 252 l1) + ((((l2 - 1) * (u.1 232 2)) + l6) * (u.1 232 2))) + l4)]) (pc := 94) (dec_at lsk_161 (k := 54) rfl) rfl (by decide) rfl ?_
      refine u_goto (pc := 97) (tgt := 17) (dec_at lsk_161 (k := 55) rfl) rfl ?_
      exact u_weak (sbK (sbK (sbK (sbK (sbK (sbK (sbK (sbD sb0)))))))) h
  · have h := ifF e3 h
    exact u_rV (pc := 100) (dec_at lsk_161 (k := 56) rfl) rfl h
/-- method 162 -/
def K_162 (d pc : Nat) (lv : ev_L) (st : List Value) (u : uS) (Q : uS → Prop) : Prop := okU d 11 4 false none prog_9_method_20_code (qV Q) pc lv st u
theorem e_162 {d : Nat} {Q : uS → Prop} {u : uS} (h : ∀ u1 : uS, u1 = fil u 253 0 400 0 → (K_162 (d + 2) 10 [.ref 232, iV 1, .retAddr 0, .retAddr 0] [] u1 Q)) : cV (d + 3) 162 [.ref 232] u Q := by
  refine u_of me_162 (Nat.le_of_ble_eq_true rfl) ?_
  refine u_ld (v := .ref 232) (pc := 0) (dec_at lsk_162 (k := 0) rfl) rfl ?_
  refine u_gS (o := 21) (p := 253) (pc := 1) (dec_at lsk_162 (k := 1) rfl) f_11_59 sx_232 rfl rfl ?_
  refine u_cl (x := 0) (pc := 4) (dec_at lsk_162 (k := 2) rfl) rfl (by decide) ?_
  refine u_csV (As := [.ref 253, lV 0]) (st2 := []) (pc := 5) (dec_at lsk_162 (k := 3) rfl) m_11_125 (Or.inl rfl) rfl (Nat.le_of_ble_eq_true rfl) (q_49 sx_253) (fun u1 e2 => ?_)
  have h := h u1 e2
  refine u_ld (v := iV 1) (pc := 8) (dec_at lsk_162 (k := 4) rfl) rfl ?_
  refine u_sto (lv' := [.ref 232, iV 1, .retAddr 0, .retAddr 0]) (pc := 9) (dec_at lsk_162 (k := 5) rfl) rfl ?_
  exact h
theorem k_162_10 {d : Nat} {Q : uS → Prop} {u : uS} {l1 : Int} (h : (rI l1) ∧ (if 16000 < l1 then (Q u) else ((rI (u.1 232 3)) ∧ (if u.1 232 3 = (-1) then (cI (d + 2) 163 [.ref 232, iV l1] u (fun r6 u5 => (rI r6) ∧ (if r6 = 0 then (K_162 (d + 2) 10 [.ref 232, iV (l1 + 1), .retAddr 0, .retAddr 0] [] u5 Q) else (K_162 (d + 2) 35 [.ref 232, iV l1, iV 0, .retAddr 0] [] u5 Q)))) else (Q u))))) : K_162 (d + 2) 10 [.ref 232, iV l1, .retAddr 0, .retAddr 0] [] u Q := by
  unfold K_162
  refine u_ld (v := iV l1) (pc := 10) (dec_at lsk_162 (k := 6) rfl) rfl ?_
  refine u_c (x := 16000) (pc := 11) (dec_at lsk_162 (k := 7) rfl) rfl (by decide) ?_
  have g1 := h.1
  have h := h.2
  refine u_icT (pc := 14) (tgt := 103) (dec_at lsk_162 (k := 8) rfl) rfl (ci_gt g1 (by decide)) (fun e2 => ?_) (fun e2 => ?_)
  · have h := ifT e2 h
    exact u_rV (pc := 103) (dec_at lsk_162 (k := 55) rfl) rfl h
  · have h := ifF e2 h
    refine u_ld (v := .ref 232) (pc := 17) (dec_at lsk_162 (k := 9) rfl) rfl ?_
    refine u_gI (z := 3) (pc := 18) (dec_at lsk_162 (k := 10) rfl) f_11_78 sx_232 rfl rfl ?_
    refine u_ld (v := iV (-1)) (pc := 21) (dec_at lsk_162 (k := 11) rfl) rfl ?_
    have g3 := h.1
    have h := h.2
    refine u_icF (pc := 22) (tgt := 103) (dec_at lsk_162 (k := 12) rfl) rfl (ci_ne g3 (by decide)) (fun e4 => ?_) (fun e4 => ?_)
    · have h := ifT e4 h
      refine u_ld (v := .ref 232) (pc := 25) (dec_at lsk_162 (k := 13) rfl) rfl ?_
      refine u_ld (v := iV l1) (pc := 26) (dec_at lsk_162 (k := 14) rfl) rfl ?_
      refine u_cvI (As := [iV l1]) (rb := 232) (st2 := []) (pc := 27) (dec_at lsk_162 (k := 15) rfl) m_11_192 (Or.inl rfl) rfl (Nat.le_of_ble_eq_true rfl) sx_232 me_163 rfl h (fun r6 u5 h => ?_)
      have g7 := h.1
      have h := h.2
      refine u_ifT (pc := 30) (tgt := 97) (dec_at lsk_162 (k := 16) rfl) rfl (c0_eq g7) (fun e8 => ?_) (fun e8 => ?_)
      · have h := ifT e8 h
        refine u_inc (lv' := [.ref 232, iV (l1 + 1), .retAddr 0, .retAddr 0]) (pc := 97) (dec_at lsk_162 (k := 53) rfl) rfl (by decide) rfl ?_
        refine u_goto (pc := 100) (tgt := 10) (dec_at lsk_162 (k := 54) rfl) rfl ?_
        exact h
      · have h := ifF e8 h
        refine u_ld (v := iV 0) (pc := 33) (dec_at lsk_162 (k := 17) rfl) rfl ?_
        refine u_sto (lv' := [.ref 232, iV l1, iV 0, .retAddr 0]) (pc := 34) (dec_at lsk_162 (k := 18) rfl) rfl ?_
        exact h
    · have h := ifF e4 h
      exact u_rV (pc := 103) (dec_at lsk_162 (k := 55) rfl) rfl h
theorem k_162_35 {d : Nat} {Q : uS → Prop} {u : uS} {l1 l2 : Int} (h : (isO (u.2 232 0) 2) ∧ ((rI l2) ∧ ((rI (u.1 (u.2 232 0) 1)) ∧ (if l2 < u.1 (u.2 232 0) 1 then (cV (d + 2) 164 [.ref 232, iV l2, iV (l1 + 1)] u (fun u5 => K_162 (d + 2) 35 [.ref 232, iV l1, iV (l2 + 1), .retAddr 0] [] u5 Q)) else ((isO (u.2 232 1) 5) ∧ (if land (u.1 247 0) (lxor (u.1 (u.2 232 1) 1) (-1)) = 0 then (∀ u8 : uS, u8 = wr u 232 3 (-1) → (K_162 (d + 2) 10 [.ref 232, iV (l1 + 1), .retAddr 0, .retAddr 0] [] u8 Q)) else (∀ u10 : uS, u10 = wr u 232 3 (ntz (land (u.1 247 0) (lxor (u.1 (u.2 232 1) 1) (-1)))) → (K_162 (d + 2) 10 [.ref 232, iV (l1 + 1), .retAddr 0, .retAddr 0] [] u10 Q)))))))) : K_162 (d + 2) 35 [.ref 232, iV l1, iV l2, .retAddr 0] [] u Q := by
  unfold K_162
  refine u_ld (v := iV l2) (pc := 35) (dec_at lsk_162 (k := 19) rfl) rfl ?_
  refine u_ld (v := .ref 232) (pc := 36) (dec_at lsk_162 (k := 20) rfl) rfl ?_
  refine u_gR (z := 0) (pc := 37) (dec_at lsk_162 (k := 21) rfl) f_11_12 sx_232 rfl rfl ?_
  have g1 := h.1
  have h := h.2
  refine u_gI (z := 1) (pc := 40) (dec_at lsk_162 (k := 22) rfl) f_11_69 g1 rfl rfl ?_
  have g2 := h.1
  have h := h.2
  have g3 := h.1
  have h := h.2
  refine u_icF (pc := 43) (tgt := 60) (dec_at lsk_162 (k := 23) rfl) rfl (ci_ge g2 g3) (fun e4 => ?_) (fun e4 => ?_)
  · have h := ifT e4 h
    refine u_ld (v := .ref 232) (pc := 46) (dec_at lsk_162 (k := 24) rfl) rfl ?_
    refine u_ld (v := iV l2) (pc := 47) (dec_at lsk_162 (k := 25) rfl) rfl ?_
    refine u_ld (v := iV l1) (pc := 48) (dec_at lsk_162 (k := 26) rfl) rfl ?_
    refine u_ld (v := iV 1) (pc := 49) (dec_at lsk_162 (k := 27) rfl) rfl ?_
    refine u_iadd (pc := 50) (dec_at lsk_162 (k := 28) rfl) ?_
    refine u_cvV (As := [iV l2, iV (l1 + 1)]) (rb := 232) (st2 := []) (pc := 51) (dec_at lsk_162 (k := 29) rfl) m_11_195 (Or.inl rfl) rfl (Nat.le_of_ble_eq_true rfl) sx_232 me_164 rfl h (fun u5 h => ?_)
    refine u_inc (lv' := [.ref 232, iV l1, iV (l2 + 1), .retAddr 0]) (pc := 54) (dec_at lsk_162 (k := 30) rfl) rfl (by decide) rfl ?_
    refine u_goto (pc := 57) (tgt := 35) (dec_at lsk_162 (k := 31) rfl) rfl ?_
    exact h
  · have h := ifF e4 h
    refine u_ld (v := .ref 232) (pc := 60) (dec_at lsk_162 (k := 32) rfl) rfl ?_
    refine u_gS (o := 15) (p := 247) (pc := 61) (dec_at lsk_162 (k := 33) rfl) f_11_40 sx_232 rfl rfl ?_
    refine u_ld (v := iV 0) (pc := 64) (dec_at lsk_162 (k := 34) rfl) rfl ?_
    refine u_lald (pc := 65) (dec_at lsk_162 (k := 35) rfl) sx_247 (by decide) (by decide) ?_
    refine u_ld (v := .ref 232) (pc := 66) (dec_at lsk_162 (k := 36) rfl) rfl ?_
    refine u_gR (z := 1) (pc := 67) (dec_at lsk_162 (k := 37) rfl) f_11_21 sx_232 rfl rfl ?_
    have g6 := h.1
    have h := h.2
    refine u_gL (z := 1) (pc := 70) (dec_at lsk_162 (k := 38) rfl) f_11_198 g6 rfl rfl ?_
    refine u_ldc2 (x := (-1)) (pc := 73) (dec_at lsk_162 (k := 39) rfl) con_11_202 (by decide) ?_
    refine u_lxor (pc := 76) (dec_at lsk_162 (k := 40) rfl) ?_
    refine u_land (pc := 77) (dec_at lsk_162 (k := 41) rfl) ?_
    refine u_sto (lv' := [.ref 232, iV l1, lV (land (u.1 247 0) (lxor (u.1 (u.2 232 1) 1) (-1))), .retAddr 0]) (pc := 78) (dec_at lsk_162 (k := 42) rfl) rfl ?_
    refine u_ld (v := .ref 232) (pc := 79) (dec_at lsk_162 (k := 43) rfl) rfl ?_
    refine u_ld (v := lV (land (u.1 247 0) (lxor (u.1 (u.2 232 1) 1) (-1)))) (pc := 80) (dec_at lsk_162 (k := 44) rfl) rfl ?_
    refine u_cl (x := 0) (pc := 81) (dec_at lsk_162 (k := 45) rfl) rfl (by decide) ?_
    refine u_st (st' := [.int (lg_cmp (Int64.ofInt (land (u.1 247 0) (lxor (u.1 (u.2 232 1) 1) (-1)))) (Int64.ofInt 0)), .ref 232]) (pc := 82) (dec_at lsk_162 (k := 46) rfl) rfl ?_
    refine u_ifF (pc := 83) (tgt := 90) (dec_at lsk_162 (k := 47) rfl) rfl (cl_ne (rl_toInt _) (by decide)) (fun e7 => ?_) (fun e7 => ?_)
    · have h := ifT e7 h
      refine u_ld (v := iV (-1)) (pc := 86) (dec_at lsk_162 (k := 48) rfl) rfl ?_
      refine u_goto (pc := 87) (tgt := 94) (dec_at lsk_162 (k := 49) rfl) rfl ?_
      refine u_pI (z := 3) (pc := 94) (dec_at lsk_162 (k := 52) rfl) f_11_78 sx_232 rfl rfl rfl rfl (fun u8 e9 => ?_)
      have h := h u8 e9
      refine u_inc (lv' := [.ref 232, iV (l1 + 1), lV (land (u.1 247 0) (lxor (u.1 (u.2 232 1) 1) (-1))), .retAddr 0]) (pc := 97) (dec_at lsk_162 (k := 53) rfl) rfl (by decide) rfl ?_
      refine u_goto (pc := 100) (tgt := 10) (dec_at lsk_162 (k := 54) rfl) rfl ?_
      exact u_weak (sbK (sbK (sbD (sbK sb0)))) h
    · have h := ifF e7 h
      refine u_ld (v := lV (land (u.1 247 0) (lxor (u.1 (u.2 232 1) 1) (-1)))) (pc := 90) (dec_at lsk_162 (k := 50) rfl) rfl ?_
      refine u_csI (As := [lV (land (u.1 247 0) (lxor (u.1 (u.2 232 1) 1) (-1)))]) (st2 := [.ref 232]) (pc := 91) (dec_at lsk_162 (k := 51) rfl) m_11_161 (Or.inl rfl) rfl (Nat.le_of_ble_eq_true rfl) (p_77 ) (fun r_ u_ h_ => ?_)
      rw [h_.1, h_.2]
      refine u_pI (z := 3) (pc := 94) (dec_at lsk_162 (k := 52) rfl) f_11_78 sx_232 rfl rfl rfl rfl (fun u10 e11 => ?_)
      have h := h u10 e11
      refine u_inc (lv' := [.ref 232, iV (l1 + 1), lV (land (u.1 247 0) (lxor (u.1 (u.2 232 1) 1) (-1))), .retAddr 0]) (pc := 97) (dec_at lsk_162 (k := 53) rfl) rfl (by decide) rfl ?_
      refine u_goto (pc := 100) (tgt := 10) (dec_at lsk_162 (k := 54) rfl) rfl ?_
      exact u_weak (sbK (sbK (sbD (sbK sb0)))) h
/-- method 163 -/
def K_163 (d pc : Nat) (lv : ev_L) (st : List Value) (u : uS) (Q : Int → uS → Prop) : Prop := okU d 11 5 false (some .boolean) prog_9_method_21_code (qI Q) pc lv st u
theorem e_163 {d : Nat} {Q : Int → uS → Prop} {u : uS} {l1 : Int} (h : K_163 (d + 1) 4 [.ref 232, iV l1, iV 0, iV 0, .retAddr 0] [] u Q) : cI (d + 2) 163 [.ref 232, iV l1] u Q := by
  refine u_of me_163 (Nat.le_of_ble_eq_true rfl) ?_
  refine u_ld (v := iV 0) (pc := 0) (dec_at lsk_163 (k := 0) rfl) rfl ?_
  refine u_sto (lv' := [.ref 232, iV l1, iV 0, .retAddr 0, .retAddr 0]) (pc := 1) (dec_at lsk_163 (k := 1) rfl) rfl ?_
  refine u_ld (v := iV 0) (pc := 2) (dec_at lsk_163 (k := 2) rfl) rfl ?_
  refine u_sto (lv' := [.ref 232, iV l1, iV 0, iV 0, .retAddr 0]) (pc := 3) (dec_at lsk_163 (k := 3) rfl) rfl ?_
  exact h
theorem k_163_4 {d : Nat} {Q : Int → uS → Prop} {u : uS} {l1 l2 l3 : Int} (h : (rI l3) ∧ ((rI (u.1 232 7)) ∧ (if l3 < u.1 232 7 then ((0 ≤ l3) ∧ ((l3 < 16000) ∧ ((0 ≤ u.1 246 l3) ∧ ((u.1 246 l3 < 16000) ∧ ((rI (u.1 245 (u.1 246 l3))) ∧ ((rI l1) ∧ (if u.1 245 (u.1 246 l3) = l1 then ((rI (u.1 246 l3)) ∧ ((rI (u.1 232 2)) ∧ (((u.1 232 2) ≠ 0) ∧ ((rI ((u.1 246 l3).tdiv (u.1 232 2))) ∧ ((0 ≤ ((((u.1 246 l3).tdiv (u.1 232 2)).tdiv (u.1 232 2)) * 40) + (((u.1 246 l3).tdiv (u.1 232 2)).tmod (u.1 232 2))) ∧ ((((((u.1 246 l3).tdiv (u.1 232 2)).tdiv (u.1 232 2)) * 40) + (((u.1 246 l3).tdiv (u.1 232 2)).tmod (u.1 232 2)) < 400) ∧ (∀ u17 : uS, u17 = wr u 253 (((((u.1 246 l3).tdiv (u.1 232 2)).tdiv (u.1 232 2)) * 40) + (((u.1 246 l3).tdiv (u.1 232 2)).tmod (u.1 232 2))) (lor (u.1 253 (((((u.1 246 l3).tdiv (u.1 232 2)).tdiv (u.1 232 2)) * 40) + (((u.1 246 l3).tdiv (u.1 232 2)).tmod (u.1 232 2)))) (lshl 1 ((u.1 246 l3).tmod (u.1 232 2)))) → (K_163 (d + 1) 4 [.ref 232, iV l1, iV 1, iV (l3 + 1), .retAddr 0] [] u17 Q)))))))) else (K_163 (d + 1) 4 [.ref 232, iV l1, iV l2, iV (l3 + 1), .retAddr 0] [] u Q)))))))) else ((l2 = 0 ∨ l2 = 1) ∧ (Q l2 u))))) : K_163 (d + 1) 4 [.ref 232, iV l1, iV l2, iV l3, .retAddr 0] [] u Q := by
  unfold K_163
  refine u_ld (v := iV l3) (pc := 4) (dec_at lsk_163 (k := 4) rfl) rfl ?_
  refine u_ld (v := .ref 232) (pc := 5) (dec_at lsk_163 (k := 5) rfl) rfl ?_
  refine u_gI (z := 7) (pc := 6) (dec_at lsk_163 (k := 6) rfl) f_11_106 sx_232 rfl rfl ?_
  have g1 := h.1
  have h := h.2
  have g2 := h.1
  have h := h.2
  refine u_icF (pc := 9) (tgt := 70) (dec_at lsk_163 (k := 7) rfl) rfl (ci_ge g1 g2) (fun e3 => ?_) (fun e3 => ?_)
  · have h := ifT e3 h
    refine u_ld (v := .ref 232) (pc := 12) (dec_at lsk_163 (k := 8) rfl) rfl ?_
    refine u_gS (o := 14) (p := 246) (pc := 13) (dec_at lsk_163 (k := 9) rfl) f_11_37 sx_232 rfl rfl ?_
    refine u_ld (v := iV l3) (pc := 16) (dec_at lsk_163 (k := 10) rfl) rfl ?_
    have g4 := h.1
    have h := h.2
    have g5 := h.1
    have h := h.2
    refine u_iald (pc := 17) (dec_at lsk_163 (k := 11) rfl) sx_246 g4 g5 ?_
    refine u_sto (lv' := [.ref 232, iV l1, iV l2, iV l3, iV (u.1 246 l3)]) (pc := 18) (dec_at lsk_163 (k := 12) rfl) rfl ?_
    refine u_ld (v := .ref 232) (pc := 20) (dec_at lsk_163 (k := 13) rfl) rfl ?_
    refine u_gS (o := 13) (p := 245) (pc := 21) (dec_at lsk_163 (k := 14) rfl) f_11_33 sx_232 rfl rfl ?_
    refine u_ld (v := iV (u.1 246 l3)) (pc := 24) (dec_at lsk_163 (k := 15) rfl) rfl ?_
    have g6 := h.1
    have h := h.2
    have g7 := h.1
    have h := h.2
    refine u_iald (pc := 26) (dec_at lsk_163 (k := 16) rfl) sx_245 g6 g7 ?_
    refine u_ld (v := iV l1) (pc := 27) (dec_at lsk_163 (k := 17) rfl) rfl ?_
    have g8 := h.1
    have h := h.2
    have g9 := h.1
    have h := h.2
    refine u_icF (pc := 28) (tgt := 64) (dec_at lsk_163 (k := 18) rfl) rfl (ci_ne g8 g9) (fun e10 => ?_) (fun e10 => ?_)
    · have h := ifT e10 h
      refine u_ld (v := .ref 232) (pc := 31) (dec_at lsk_163 (k := 19) rfl) rfl ?_
      refine u_gS (o := 21) (p := 253) (pc := 32) (dec_at lsk_163 (k := 20) rfl) f_11_59 sx_232 rfl rfl ?_
      refine u_ld (v := .ref 232) (pc := 35) (dec_at lsk_163 (k := 21) rfl) rfl ?_
      refine u_ld (v := iV (u.1 246 l3)) (pc := 36) (dec_at lsk_163 (k := 22) rfl) rfl ?_
      refine u_cvI (As := [iV (u.1 246 l3)]) (rb := 232) (st2 := [.ref 253]) (pc := 38) (dec_at lsk_163 (k := 23) rfl) m_11_167 (Or.inl rfl) rfl (Nat.le_of_ble_eq_true rfl) sx_232 me_149 rfl ?_ (fun _ _ h_ => h_)
      refine u_of me_149 (Nat.le_of_ble_eq_true rfl) ?_
      refine u_ld (v := iV (u.1 246 l3)) (pc := 0) (dec_at lsk_149 (k := 0) rfl) rfl ?_
      refine u_ld (v := .ref 232) (pc := 1) (dec_at lsk_149 (k := 1) rfl) rfl ?_
      refine u_gI (z := 2) (pc := 2) (dec_at lsk_149 (k := 2) rfl) f_11_25 sx_232 rfl rfl ?_
      have g11 := h.1
      have h := h.2
      have g12 := h.1
      have h := h.2
      have g13 := h.1
      have h := h.2
      refine u_idiv (pc := 5) (dec_at lsk_149 (k := 3) rfl) g11 g12 g13 ?_
      refine u_ld (v := .ref 232) (pc := 6) (dec_at lsk_149 (k := 4) rfl) rfl ?_
      refine u_gI (z := 2) (pc := 7) (dec_at lsk_149 (k := 5) rfl) f_11_25 sx_232 rfl rfl ?_
      have g14 := h.1
      have h := h.2
      refine u_idiv (pc := 10) (dec_at lsk_149 (k := 6) rfl) g14 g12 g13 ?_
      refine u_rI (pc := 11) (dec_at lsk_149 (k := 7) rfl) rfl ?_
      refine u_ld (v := .ref 232) (pc := 41) (dec_at lsk_163 (k := 24) rfl) rfl ?_
      refine u_ld (v := iV (u.1 246 l3)) (pc := 42) (dec_at lsk_163 (k := 25) rfl) rfl ?_
      refine u_cvI (As := [iV (u.1 246 l3)]) (rb := 232) (st2 := [iV (((u.1 246 l3).tdiv (u.1 232 2)).tdiv (u.1 232 2)), .ref 253]) (pc := 44) (dec_at lsk_163 (k := 26) rfl) m_11_171 (Or.inl rfl) rfl (Nat.le_of_ble_eq_true rfl) sx_232 me_150 rfl ?_ (fun _ _ h_ => h_)
      refine u_of me_150 (Nat.le_of_ble_eq_true rfl) ?_
      refine u_ld (v := iV (u.1 246 l3)) (pc := 0) (dec_at lsk_150 (k := 0) rfl) rfl ?_
      refine u_ld (v := .ref 232) (pc := 1) (dec_at lsk_150 (k := 1) rfl) rfl ?_
      refine u_gI (z := 2) (pc := 2) (dec_at lsk_150 (k := 2) rfl) f_11_25 sx_232 rfl rfl ?_
      refine u_idiv (pc := 5) (dec_at lsk_150 (k := 3) rfl) g11 g12 g13 ?_
      refine u_ld (v := .ref 232) (pc := 6) (dec_at lsk_150 (k := 4) rfl) rfl ?_
      refine u_gI (z := 2) (pc := 7) (dec_at lsk_150 (k := 5) rfl) f_11_25 sx_232 rfl rfl ?_
      refine u_irem (pc := 10) (dec_at lsk_150 (k := 6) rfl) g14 g12 g13 ?_
      refine u_rI (pc := 11) (dec_at lsk_150 (k := 7) rfl) rfl ?_
      refine u_csI (As := [iV (((u.1 246 l3).tdiv (u.1 232 2)).tdiv (u.1 232 2)), iV (((u.1 246 l3).tdiv (u.1 232 2)).tmod (u.1 232 2))]) (st2 := [.ref 253]) (pc := 47) (dec_at lsk_163 (k := 27) rfl) m_11_158 (Or.inr rfl) rfl (Nat.le_of_ble_eq_true rfl) ?_ (fun _ _ h_ => h_)
      refine u_of me_141 (Nat.le_of_ble_eq_true rfl) ?_
      refine u_ld (v := iV (((u.1 246 l3).tdiv (u.1 232 2)).tdiv (u.1 232 2))) (pc := 0) (dec_at lsk_141 (k := 0) rfl) rfl ?_
      refine u_c (x := 40) (pc := 1) (dec_at lsk_141 (k := 1) rfl) rfl (by decide) ?_
      refine u_imul (pc := 3) (dec_at lsk_141 (k := 2) rfl) ?_
      refine u_ld (v := iV (((u.1 246 l3).tdiv (u.1 232 2)).tmod (u.1 232 2))) (pc := 4) (dec_at lsk_141 (k := 3) rfl) rfl ?_
      refine u_iadd (pc := 5) (dec_at lsk_141 (k := 4) rfl) ?_
      refine u_rI (pc := 6) (dec_at lsk_141 (k := 5) rfl) rfl ?_
      refine u_st (st' := [iV (((((u.1 246 l3).tdiv (u.1 232 2)).tdiv (u.1 232 2)) * 40) + (((u.1 246 l3).tdiv (u.1 232 2)).tmod (u.1 232 2))), .ref 253, iV (((((u.1 246 l3).tdiv (u.1 232 2)).tdiv (u.1 232 2)) * 40) + (((u.1 246 l3).tdiv (u.1 232 2)).tmod (u.1 232 2))), .ref 253]) (pc := 50) (dec_at lsk_163 (k := 28) rfl) rfl ?_
      have g15 := h.1
      have h := h.2
      have g16 := h.1
      have h := h.2
      refine u_lald (pc := 51) (dec_at lsk_163 (k := 29) rfl) sx_253 g15 g16 ?_
      refine u_cl (x := 1) (pc := 52) (dec_at lsk_163 (k := 30) rfl) rfl (by decide) ?_
      refine u_ld (v := .ref 232) (pc := 53) (dec_at lsk_163 (k := 31) rfl) rfl ?_
      refine u_ld (v := iV (u.1 246 l3)) (pc := 54) (dec_at lsk_163 (k := 32) rfl) rfl ?_
      refine u_cvI (As := [iV (u.1 246 l3)]) (rb := 232) (st2 := [lV 1, lV (u.1 253 (((((u.1 246 l3).tdiv (u.1 232 2)).tdiv (u.1 232 2)) * 40) + (((u.1 246 l3).tdiv (u.1 232 2)).tmod (u.1 232 2)))), iV (((((u.1 246 l3).tdiv (u.1 232 2)).tdiv (u.1 232 2)) * 40) + (((u.1 246 l3).tdiv (u.1 232 2)).tmod (u.1 232 2))), .ref 253]) (pc := 56) (dec_at lsk_163 (k := 33) rfl) m_11_174 (Or.inl rfl) rfl (Nat.le_of_ble_eq_true rfl) sx_232 me_151 rfl ?_ (fun _ _ h_ => h_)
      refine u_of me_151 (Nat.le_of_ble_eq_true rfl) ?_
      refine u_ld (v := iV (u.1 246 l3)) (pc := 0) (dec_at lsk_151 (k := 0) rfl) rfl ?_
      refine u_ld (v := .ref 232) (pc := 1) (dec_at lsk_151 (k := 1) rfl) rfl ?_
      refine u_gI (z := 2) (pc := 2) (dec_at lsk_151 (k := 2) rfl) f_11_25 sx_232 rfl rfl ?_
      refine u_irem (pc := 5) (dec_at lsk_151 (k := 3) rfl) g11 g12 g13 ?_
      refine u_rI (pc := 6) (dec_at lsk_151 (k := 4) rfl) rfl ?_
      refine u_lshl (pc := 59) (dec_at lsk_163 (k := 34) rfl) ?_
      refine u_lor (pc := 60) (dec_at lsk_163 (k := 35) rfl) ?_
      refine u_last (pc := 61) (dec_at lsk_163 (k := 36) rfl) sx_253 g15 g16 (fun u17 e18 => ?_)
      have h := h u17 e18
      refine u_ld (v := iV 1) (pc := 62) (dec_at lsk_163 (k := 37) rfl) rfl ?_
      refine u_sto (lv' := [.ref 232, iV l1, iV 1, iV l3, iV (u.1 246 l3)]) (pc := 63) (dec_at lsk_163 (k := 38) rfl) rfl ?_
      refine u_inc (lv' := [.ref 232, iV l1, iV 1, iV (l3 + 1), iV (u.1 246 l3)]) (pc := 64) (dec_at lsk_163 (k := 39) rfl) rfl (by decide) rfl ?_
      refine u_goto (pc := 67) (tgt := 4) (dec_at lsk_163 (k := 40) rfl) rfl ?_
      exact u_weak (sbK (sbK (sbK (sbK (sbD sb0))))) h
    · have h := ifF e10 h
      refine u_inc (lv' := [.ref 232, iV l1, iV l2, iV (l3 + 1), iV (u.1 246 l3)]) (pc := 64) (dec_at lsk_163 (k := 39) rfl) rfl (by decide) rfl ?_
      refine u_goto (pc := 67) (tgt := 4) (dec_at lsk_163 (k := 40) rfl) rfl ?_
      exact u_weak (sbK (sbK (sbK (sbK (sbD sb0))))) h
  · have h := ifF e3 h
    refine u_ld (v := iV l2) (pc := 70) (dec_at lsk_163 (k := 41) rfl) rfl ?_
    have g19 := h.1
    have h := h.2
    exact u_rZ (pc := 71) (dec_at lsk_163 (k := 42) rfl) rfl g19 h
/-- method 164 -/
def K_164 (d pc : Nat) (lv : ev_L) (st : List Value) (u : uS) (Q : uS → Prop) : Prop := okU d 11 10 false none prog_9_method_22_code (qV Q) pc lv st u
theorem e_164 {d : Nat} {Q : uS → Prop} {u : uS} {l1 l2 : Int} (h : (isO (u.2 232 0) 2) ∧ ((0 ≤ l1) ∧ ((l1 < 30) ∧ (K_164 (d + 2) 13 [.ref 232, iV l1, iV l2, iV (u.1 ((u.2 232 0) + 2) l1), iV 0, .retAddr 0, .retAddr 0, .retAddr 0, .retAddr 0, .retAddr 0] [] u Q)))) : cV (d + 3) 164 [.ref 232, iV l1, iV l2] u Q := by
  refine u_of me_164 (Nat.le_of_ble_eq_true rfl) ?_
  refine u_ld (v := .ref 232) (pc := 0) (dec_at lsk_164 (k := 0) rfl) rfl ?_
  refine u_gR (z := 0) (pc := 1) (dec_at lsk_164 (k := 1) rfl) f_11_12 sx_232 rfl rfl ?_
  have g1 := h.1
  have h := h.2
  refine u_gS (o := 2) (p := (u.2 232 0) + 2) (pc := 4) (dec_at lsk_164 (k := 2) rfl) f_11_133 g1 rfl rfl ?_
  refine u_ld (v := iV l1) (pc := 7) (dec_at lsk_164 (k := 3) rfl) rfl ?_
  have g2 := h.1
  have h := h.2
  have g3 := h.1
  have h := h.2
  refine u_iald (pc := 8) (dec_at lsk_164 (k := 4) rfl) (sa_2_3 g1) g2 g3 ?_
  refine u_sto (lv' := [.ref 232, iV l1, iV l2, iV (u.1 ((u.2 232 0) + 2) l1), .retAddr 0, .retAddr 0, .retAddr 0, .retAddr 0, .retAddr 0, .retAddr 0]) (pc := 9) (dec_at lsk_164 (k := 5) rfl) rfl ?_
  refine u_ld (v := iV 0) (pc := 10) (dec_at lsk_164 (k := 6) rfl) rfl ?_
  refine u_sto (lv' := [.ref 232, iV l1, iV l2, iV (u.1 ((u.2 232 0) + 2) l1), iV 0, .retAddr 0, .retAddr 0, .retAddr 0, .retAddr 0, .retAddr 0]) (pc := 11) (dec_at lsk_164 (k := 7) rfl) rfl ?_
  exact h
theorem k_164_13 {d : Nat} {Q : uS → Prop} {u : uS} {l1 l2 l3 l4 : Int} (h : (rI l4) ∧ ((rI (u.1 232 2)) ∧ (if l4 < u.1 232 2 then (cV (d + 2) 142 [.ref (u.2 232 0), .ref (u.2 232 1), .ref 253, iV l1, iV l4, .ref 254] u (fun u4 => (isO (u4.2 232 0) 2) ∧ ((0 ≤ l1) ∧ ((l1 < 30) ∧ ((0 ≤ u4.1 ((u4.2 232 0) + 3) l1) ∧ ((u4.1 ((u4.2 232 0) + 3) l1 < 7) ∧ ((0 ≤ (l3 * 40) + l4) ∧ (((l3 * 40) + l4 < 400) ∧ (K_164 (d + 2) 80 [.ref 232, iV l1, iV l2, iV l3, iV l4, .retAddr 0, .retAddr 0, lV (land (u4.1 254 (u4.1 ((u4.2 232 0) + 3) l1)) (lxor (u4.1 247 ((l3 * 40) + l4)) (-1))), .retAddr 0, .retAddr 0] [] u4 Q))))))))) else (Q u)))) : K_164 (d + 2) 13 [.ref 232, iV l1, iV l2, iV l3, iV l4, .retAddr 0, .retAddr 0, .retAddr 0, .retAddr 0, .retAddr 0] [] u Q := by
  unfold K_164
  refine u_ld (v := iV l4) (pc := 13) (dec_at lsk_164 (k := 8) rfl) rfl ?_
  refine u_ld (v := .ref 232) (pc := 15) (dec_at lsk_164 (k := 9) rfl) rfl ?_
  refine u_gI (z := 2) (pc := 16) (dec_at lsk_164 (k := 10) rfl) f_11_25 sx_232 rfl rfl ?_
  have g1 := h.1
  have h := h.2
  have g2 := h.1
  have h := h.2
  refine u_icF (pc := 19) (tgt := 143) (dec_at lsk_164 (k := 11) rfl) rfl (ci_ge g1 g2) (fun e3 => ?_) (fun e3 => ?_)
  · have h := ifT e3 h
    refine u_ld (v := .ref 232) (pc := 22) (dec_at lsk_164 (k := 12) rfl) rfl ?_
    refine u_gR (z := 0) (pc := 23) (dec_at lsk_164 (k := 13) rfl) f_11_12 sx_232 rfl rfl ?_
    refine u_ld (v := .ref 232) (pc := 26) (dec_at lsk_164 (k := 14) rfl) rfl ?_
    refine u_gR (z := 1) (pc := 27) (dec_at lsk_164 (k := 15) rfl) f_11_21 sx_232 rfl rfl ?_
    refine u_ld (v := .ref 232) (pc := 30) (dec_at lsk_164 (k := 16) rfl) rfl ?_
    refine u_gS (o := 21) (p := 253) (pc := 31) (dec_at lsk_164 (k := 17) rfl) f_11_59 sx_232 rfl rfl ?_
    refine u_ld (v := iV l1) (pc := 34) (dec_at lsk_164 (k := 18) rfl) rfl ?_
    refine u_ld (v := iV l4) (pc := 35) (dec_at lsk_164 (k := 19) rfl) rfl ?_
    refine u_ld (v := .ref 232) (pc := 37) (dec_at lsk_164 (k := 20) rfl) rfl ?_
    refine u_gS (o := 22) (p := 254) (pc := 38) (dec_at lsk_164 (k := 21) rfl) f_11_62 sx_232 rfl rfl ?_
    refine u_csV (As := [.ref (u.2 232 0), .ref (u.2 232 1), .ref 253, iV l1, iV l4, .ref 254]) (st2 := []) (pc := 41) (dec_at lsk_164 (k := 22) rfl) m_11_204 (Or.inr rfl) rfl (Nat.le_of_ble_eq_true rfl) h (fun u4 h => ?_)
    refine u_ld (v := .ref 232) (pc := 44) (dec_at lsk_164 (k := 23) rfl) rfl ?_
    refine u_gS (o := 22) (p := 254) (pc := 45) (dec_at lsk_164 (k := 24) rfl) f_11_62 sx_232 rfl rfl ?_
    refine u_ld (v := .ref 232) (pc := 48) (dec_at lsk_164 (k := 25) rfl) rfl ?_
    refine u_gR (z := 0) (pc := 49) (dec_at lsk_164 (k := 26) rfl) f_11_12 sx_232 rfl rfl ?_
    have g5 := h.1
    have h := h.2
    refine u_gS (o := 3) (p := (u4.2 232 0) + 3) (pc := 52) (dec_at lsk_164 (k := 27) rfl) f_11_109 g5 rfl rfl ?_
    refine u_ld (v := iV l1) (pc := 55) (dec_at lsk_164 (k := 28) rfl) rfl ?_
    have g6 := h.1
    have h := h.2
    have g7 := h.1
    have h := h.2
    refine u_iald (pc := 56) (dec_at lsk_164 (k := 29) rfl) (sa_2_4 g5) g6 g7 ?_
    have g8 := h.1
    have h := h.2
    have g9 := h.1
    have h := h.2
    refine u_lald (pc := 57) (dec_at lsk_164 (k := 30) rfl) sx_254 g8 g9 ?_
    refine u_ld (v := .ref 232) (pc := 58) (dec_at lsk_164 (k := 31) rfl) rfl ?_
    refine u_gS (o := 15) (p := 247) (pc := 59) (dec_at lsk_164 (k := 32) rfl) f_11_40 sx_232 rfl rfl ?_
    refine u_ld (v := iV l3) (pc := 62) (dec_at lsk_164 (k := 33) rfl) rfl ?_
    refine u_ld (v := iV l4) (pc := 63) (dec_at lsk_164 (k := 34) rfl) rfl ?_
    refine u_csI (As := [iV l3, iV l4]) (st2 := [.ref 247, lV (u4.1 254 (u4.1 ((u4.2 232 0) + 3) l1))]) (pc := 65) (dec_at lsk_164 (k := 35) rfl) m_11_158 (Or.inr rfl) rfl (Nat.le_of_ble_eq_true rfl) ?_ (fun _ _ h_ => h_)
    refine u_of me_141 (Nat.le_of_ble_eq_true rfl) ?_
    refine u_ld (v := iV l3) (pc := 0) (dec_at lsk_141 (k := 0) rfl) rfl ?_
    refine u_c (x := 40) (pc := 1) (dec_at lsk_141 (k := 1) rfl) rfl (by decide) ?_
    refine u_imul (pc := 3) (dec_at lsk_141 (k := 2) rfl) ?_
    refine u_ld (v := iV l4) (pc := 4) (dec_at lsk_141 (k := 3) rfl) rfl ?_
    refine u_iadd (pc := 5) (dec_at lsk_141 (k := 4) rfl) ?_
    refine u_rI (pc := 6) (dec_at lsk_141 (k := 5) rfl) rfl ?_
    have g10 := h.1
    have h := h.2
    have g11 := h.1
    have h := h.2
    refine u_lald (pc := 68) (dec_at lsk_164 (k := 36) rfl) sx_247 g10 g11 ?_
    refine u_ldc2 (x := (-1)) (pc := 69) (dec_at lsk_164 (k := 37) rfl) con_11_202 (by decide) ?_
    refine u_lxor (pc := 72) (dec_at lsk_164 (k := 38) rfl) ?_
    refine u_land (pc := 73) (dec_at lsk_164 (k := 39) rfl) ?_
    refine u_sto (lv' := [.ref 232, iV l1, iV l2, iV l3, iV l4, lV (land (u4.1 254 (u4.1 ((u4.2 232 0) + 3) l1)) (lxor (u4.1 247 ((l3 * 40) + l4)) (-1))), .retAddr 0, .retAddr 0, .retAddr 0, .retAddr 0]) (pc := 74) (dec_at lsk_164 (k := 40) rfl) rfl ?_
    refine u_ld (v := lV (land (u4.1 254 (u4.1 ((u4.2 232 0) + 3) l1)) (lxor (u4.1 247 ((l3 * 40) + l4)) (-1)))) (pc := 76) (dec_at lsk_164 (k := 41) rfl) rfl ?_
    refine u_sto (lv' := [.ref 232, iV l1, iV l2, iV l3, iV l4, lV (land (u4.1 254 (u4.1 ((u4.2 232 0) + 3) l1)) (lxor (u4.1 247 ((l3 * 40) + l4)) (-1))), .retAddr 0, lV (land (u4.1 254 (u4.1 ((u4.2 232 0) + 3) l1)) (lxor (u4.1 247 ((l3 * 40) + l4)) (-1))), .retAddr 0, .retAddr 0]) (pc := 78) (dec_at lsk_164 (k := 42) rfl) rfl ?_
    exact u_weak (sbK (sbK (sbK (sbK (sbK (sbD (sbK (sbK (sbK (sbK sb0)))))))))) h
  · have h := ifF e3 h
    exact u_rV (pc := 143) (dec_at lsk_164 (k := 76) rfl) rfl h
theorem k_164_80 {d : Nat} {Q : uS → Prop} {u : uS} {l1 l2 l3 l4 l7 : Int} (h : (rL l7) ∧ (if l7 = 0 then (K_164 (d + 2) 13 [.ref 232, iV l1, iV l2, iV l3, iV (l4 + 1), .retAddr 0, .retAddr 0, .retAddr 0, .retAddr 0, .retAddr 0] [] u Q) else ((0 ≤ (((l3 * (u.1 232 2)) + l4) * (u.1 232 2)) + (ntz l7)) ∧ (((((l3 * (u.1 232 2)) + l4) * (u.1 232 2)) + (ntz l7) < 16000) ∧ (∀ u5 : uS, u5 = wr u 244 ((((l3 * (u.1 232 2)) + l4) * (u.1 232 2)) + (ntz l7)) 4000000000000000000 → (∀ u7 : uS, u7 = wr u5 245 ((((l3 * (u.1 232 2)) + l4) * (u.1 232 2)) + (ntz l7)) l2 → ((0 ≤ u7.1 232 7) ∧ ((u7.1 232 7 < 16000) ∧ (∀ u11 : uS, u11 = wr u7 246 (u7.1 232 7) ((((l3 * (u.1 232 2)) + l4) * (u.1 232 2)) + (ntz l7)) → (∀ u13 : uS, u13 = wr u11 232 7 ((u11.1 232 7) + 1) → ((rI ((((l3 * (u.1 232 2)) + l4) * (u.1 232 2)) + (ntz l7))) ∧ ((rI (u13.1 232 2)) ∧ (((u13.1 232 2) ≠ 0) ∧ ((rI (((((l3 * (u.1 232 2)) + l4) * (u.1 232 2)) + (ntz l7)).tdiv (u13.1 232 2))) ∧ ((0 ≤ (((((((l3 * (u.1 232 2)) + l4) * (u.1 232 2)) + (ntz l7)).tdiv (u13.1 232 2)).tdiv (u13.1 232 2)) * 40) + ((((((l3 * (u.1 232 2)) + l4) * (u.1 232 2)) + (ntz l7)).tdiv (u13.1 232 2)).tmod (u13.1 232 2))) ∧ (((((((((l3 * (u.1 232 2)) + l4) * (u.1 232 2)) + (ntz l7)).tdiv (u13.1 232 2)).tdiv (u13.1 232 2)) * 40) + ((((((l3 * (u.1 232 2)) + l4) * (u.1 232 2)) + (ntz l7)).tdiv (u13.1 232 2)).tmod (u13.1 232 2)) < 400) ∧ (∀ u21 : uS, u21 = wr u13 247 ((((((((l3 * (u.1 232 2)) + l4) * (u.1 232 2)) + (ntz l7)).tdiv (u13.1 232 2)).tdiv (u13.1 232 2)) * 40) + ((((((l3 * (u.1 232 2)) + l4) * (u.1 232 2)) + (ntz l7)).tdiv (u13.1 232 2)).tmod (u13.1 232 2))) (lor (u13.1 247 ((((((((l3 * (u.1 232 2)) + l4) * (u.1 232 2)) + (ntz l7)).tdiv (u13.1 232 2)).tdiv (u13.1 232 2)) * 40) + ((((((l3 * (u.1 232 2)) + l4) * (u.1 232 2)) + (ntz l7)).tdiv (u13.1 232 2)).tmod (u13.1 232 2)))) (lshl 1 (((((l3 * (u.1 232 2)) + l4) * (u.1 232 2)) + (ntz l7)).tmod (u13.1 232 2)))) → (K_164 (d + 2) 80 [.ref 232, iV l1, iV l2, iV l3, iV l4, .retAddr 0, .retAddr 0, lV (land l7 (l7 - 1)), .retAddr 0, .retAddr 0] [] u21 Q)))))))))))))))))) : K_164 (d + 2) 80 [.ref 232, iV l1, iV l2, iV l3, iV l4, .retAddr 0, .retAddr 0, lV l7, .retAddr 0, .retAddr 0] [] u Q := by
  unfold K_164
  refine u_ld (v := lV l7) (pc := 80) (dec_at lsk_164 (k := 43) rfl) rfl ?_
  refine u_cl (x := 0) (pc := 82) (dec_at lsk_164 (k := 44) rfl) rfl (by decide) ?_
  refine u_st (st' := [.int (lg_cmp (Int64.ofInt l7) (Int64.ofInt 0))]) (pc := 83) (dec_at lsk_164 (k := 45) rfl) rfl ?_
  have g1 := h.1
  have h := h.2
  refine u_ifT (pc := 84) (tgt := 137) (dec_at lsk_164 (k := 46) rfl) rfl (cl_eq g1 (by decide)) (fun e2 => ?_) (fun e2 => ?_)
  · have h := ifT e2 h
    refine u_inc (lv' := [.ref 232, iV l1, iV l2, iV l3, iV (l4 + 1), .retAddr 0, .retAddr 0, lV l7, .retAddr 0, .retAddr 0]) (pc := 137) (dec_at lsk_164 (k := 74) rfl) rfl (by decide) rfl ?_
    refine u_goto (pc := 140) (tgt := 13) (dec_at lsk_164 (k := 75) rfl) rfl ?_
    exact u_weak (sbK (sbK (sbK (sbK (sbK (sbK (sbK (sbD (sbK (sbK sb0)))))))))) h
  · have h := ifF e2 h
    refine u_ld (v := .ref 232) (pc := 87) (dec_at lsk_164 (k := 47) rfl) rfl ?_
    refine u_ld (v := iV l3) (pc := 88) (dec_at lsk_164 (k := 48) rfl) rfl ?_
    refine u_ld (v := iV l4) (pc := 89) (dec_at lsk_164 (k := 49) rfl) rfl ?_
    refine u_ld (v := lV l7) (pc := 91) (dec_at lsk_164 (k := 50) rfl) rfl ?_
    refine u_csI (As := [lV l7]) (st2 := [iV l4, iV l3, .ref 232]) (pc := 93) (dec_at lsk_164 (k := 51) rfl) m_11_161 (Or.inl rfl) rfl (Nat.le_of_ble_eq_true rfl) (p_77 ) (fun r_ u_ h_ => ?_)
    rw [h_.1, h_.2]
    refine u_cvI (As := [iV l3, iV l4, iV (ntz l7)]) (rb := 232) (st2 := []) (pc := 96) (dec_at lsk_164 (k := 52) rfl) m_11_136 (Or.inl rfl) rfl (Nat.le_of_ble_eq_true rfl) sx_232 me_147 rfl ?_ (fun _ _ h_ => h_)
    refine u_of me_147 (Nat.le_of_ble_eq_true rfl) ?_
    refine u_ld (v := iV l3) (pc := 0) (dec_at lsk_147 (k := 0) rfl) rfl ?_
    refine u_ld (v := .ref 232) (pc := 1) (dec_at lsk_147 (k := 1) rfl) rfl ?_
    refine u_gI (z := 2) (pc := 2) (dec_at lsk_147 (k := 2) rfl) f_11_25 sx_232 rfl rfl ?_
    refine u_imul (pc := 5) (dec_at lsk_147 (k := 3) rfl) ?_
    refine u_ld (v := iV l4) (pc := 6) (dec_at lsk_147 (k := 4) rfl) rfl ?_
    refine u_iadd (pc := 7) (dec_at lsk_147 (k := 5) rfl) ?_
    refine u_ld (v := .ref 232) (pc := 8) (dec_at lsk_147 (k := 6) rfl) rfl ?_
    refine u_gI (z := 2) (pc := 9) (dec_at lsk_147 (k := 7) rfl) f_11_25 sx_232 rfl rfl ?_
    refine u_imul (pc := 12) (dec_at lsk_147 (k := 8) rfl) ?_
    refine u_ld (v := iV (ntz l7)) (pc := 13) (dec_at lsk_147 (k := 9) rfl) rfl ?_
    refine u_iadd (pc := 14) (dec_at lsk_147 (k := 10) rfl) ?_
    refine u_rI (pc := 15) (dec_at lsk_147 (k := 11) rfl) rfl ?_
    refine u_sto (lv' := [.ref 232, iV l1, iV l2, iV l3, iV l4, .retAddr 0, .retAddr 0, lV l7, .retAddr 0, iV ((((l3 * (u.1 232 2)) + l4) * (u.1 232 2)) + (ntz l7))]) (pc := 99) (dec_at lsk_164 (k := 53) rfl) rfl ?_
    refine u_ld (v := .ref 232) (pc := 101) (dec_at lsk_164 (k := 54) rfl) rfl ?_
    refine u_gS (o := 12) (p := 244) (pc := 102) (dec_at lsk_164 (k := 55) rfl) f_11_29 sx_232 rfl rfl ?_
    refine u_ld (v := iV ((((l3 * (u.1 232 2)) + l4) * (u.1 232 2)) + (ntz l7))) (pc := 105) (dec_at lsk_164 (k := 56) rfl) rfl ?_
    refine u_ldc2 (x := 4000000000000000000) (pc := 107) (dec_at lsk_164 (k := 57) rfl) con_11_131 (by decide) ?_
    have g3 := h.1
    have h := h.2
    have g4 := h.1
    have h := h.2
    refine u_last (pc := 110) (dec_at lsk_164 (k := 58) rfl) sx_244 g3 g4 (fun u5 e6 => ?_)
    have h := h u5 e6
    refine u_ld (v := .ref 232) (pc := 111) (dec_at lsk_164 (k := 59) rfl) rfl ?_
    refine u_gS (o := 13) (p := 245) (pc := 112) (dec_at lsk_164 (k := 60) rfl) f_11_33 sx_232 rfl rfl ?_
    refine u_ld (v := iV ((((l3 * (u.1 232 2)) + l4) * (u.1 232 2)) + (ntz l7))) (pc := 115) (dec_at lsk_164 (k := 61) rfl) rfl ?_
    refine u_ld (v := iV l2) (pc := 117) (dec_at lsk_164 (k := 62) rfl) rfl ?_
    refine u_iast (pc := 118) (dec_at lsk_164 (k := 63) rfl) sx_245 g3 g4 (fun u7 e8 => ?_)
    have h := h u7 e8
    refine u_ld (v := .ref 232) (pc := 119) (dec_at lsk_164 (k := 64) rfl) rfl ?_
    refine u_ld (v := iV ((((l3 * (u.1 232 2)) + l4) * (u.1 232 2)) + (ntz l7))) (pc := 120) (dec_at lsk_164 (k := 65) rfl) rfl ?_
    refine u_cvV (As := [iV ((((l3 * (u.1 232 2)) + l4) * (u.1 232 2)) + (ntz l7))]) (rb := 232) (st2 := []) (pc := 122) (dec_at lsk_164 (k := 66) rfl) m_11_85 (Or.inl rfl) rfl (Nat.le_of_ble_eq_true rfl) sx_232 me_158 rfl ?_ (fun _ h_ => h_)
    refine u_of me_158 (Nat.le_of_ble_eq_true rfl) ?_
    refine u_ld (v := .ref 232) (pc := 0) (dec_at lsk_158 (k := 0) rfl) rfl ?_
    refine u_gS (o := 14) (p := 246) (pc := 1) (dec_at lsk_158 (k := 1) rfl) f_11_37 sx_232 rfl rfl ?_
    refine u_ld (v := .ref 232) (pc := 4) (dec_at lsk_158 (k := 2) rfl) rfl ?_
    refine u_gI (z := 7) (pc := 5) (dec_at lsk_158 (k := 3) rfl) f_11_106 sx_232 rfl rfl ?_
    refine u_ld (v := iV ((((l3 * (u.1 232 2)) + l4) * (u.1 232 2)) + (ntz l7))) (pc := 8) (dec_at lsk_158 (k := 4) rfl) rfl ?_
    have g9 := h.1
    have h := h.2
    have g10 := h.1
    have h := h.2
    refine u_iast (pc := 9) (dec_at lsk_158 (k := 5) rfl) sx_246 g9 g10 (fun u11 e12 => ?_)
    have h := h u11 e12
    refine u_ld (v := .ref 232) (pc := 10) (dec_at lsk_158 (k := 6) rfl) rfl ?_
    refine u_ld (v := .ref 232) (pc := 11) (dec_at lsk_158 (k := 7) rfl) rfl ?_
    refine u_gI (z := 7) (pc := 12) (dec_at lsk_158 (k := 8) rfl) f_11_106 sx_232 rfl rfl ?_
    refine u_ld (v := iV 1) (pc := 15) (dec_at lsk_158 (k := 9) rfl) rfl ?_
    refine u_iadd (pc := 16) (dec_at lsk_158 (k := 10) rfl) ?_
    refine u_pI (z := 7) (pc := 17) (dec_at lsk_158 (k := 11) rfl) f_11_106 sx_232 rfl rfl rfl rfl (fun u13 e14 => ?_)
    have h := h u13 e14
    refine u_ld (v := .ref 232) (pc := 20) (dec_at lsk_158 (k := 12) rfl) rfl ?_
    refine u_gS (o := 15) (p := 247) (pc := 21) (dec_at lsk_158 (k := 13) rfl) f_11_40 sx_232 rfl rfl ?_
    refine u_ld (v := .ref 232) (pc := 24) (dec_at lsk_158 (k := 14) rfl) rfl ?_
    refine u_ld (v := iV ((((l3 * (u.1 232 2)) + l4) * (u.1 232 2)) + (ntz l7))) (pc := 25) (dec_at lsk_158 (k := 15) rfl) rfl ?_
    refine u_cvI (As := [iV ((((l3 * (u.1 232 2)) + l4) * (u.1 232 2)) + (ntz l7))]) (rb := 232) (st2 := [.ref 247]) (pc := 26) (dec_at lsk_158 (k := 16) rfl) m_11_167 (Or.inl rfl) rfl (Nat.le_of_ble_eq_true rfl) sx_232 me_149 rfl ?_ (fun _ _ h_ => h_)
    refine u_of me_149 (Nat.le_of_ble_eq_true rfl) ?_
    refine u_ld (v := iV ((((l3 * (u.1 232 2)) + l4) * (u.1 232 2)) + (ntz l7))) (pc := 0) (dec_at lsk_149 (k := 0) rfl) rfl ?_
    refine u_ld (v := .ref 232) (pc := 1) (dec_at lsk_149 (k := 1) rfl) rfl ?_
    refine u_gI (z := 2) (pc := 2) (dec_at lsk_149 (k := 2) rfl) f_11_25 sx_232 rfl rfl ?_
    have g15 := h.1
    have h := h.2
    have g16 := h.1
    have h := h.2
    have g17 := h.1
    have h := h.2
    refine u_idiv (pc := 5) (dec_at lsk_149 (k := 3) rfl) g15 g16 g17 ?_
    refine u_ld (v := .ref 232) (pc := 6) (dec_at lsk_149 (k := 4) rfl) rfl ?_
    refine u_gI (z := 2) (pc := 7) (dec_at lsk_149 (k := 5) rfl) f_11_25 sx_232 rfl rfl ?_
    have g18 := h.1
    have h := h.2
    refine u_idiv (pc := 10) (dec_at lsk_149 (k := 6) rfl) g18 g16 g17 ?_
    refine u_rI (pc := 11) (dec_at lsk_149 (k := 7) rfl) rfl ?_
    refine u_ld (v := .ref 232) (pc := 29) (dec_at lsk_158 (k := 17) rfl) rfl ?_
    refine u_ld (v := iV ((((l3 * (u.1 232 2)) + l4) * (u.1 232 2)) + (ntz l7))) (pc := 30) (dec_at lsk_158 (k := 18) rfl) rfl ?_
    refine u_cvI (As := [iV ((((l3 * (u.1 232 2)) + l4) * (u.1 232 2)) + (ntz l7))]) (rb := 232) (st2 := [iV ((((((l3 * (u.1 232 2)) + l4) * (u.1 232 2)) + (ntz l7)).tdiv (u13.1 232 2)).tdiv (u13.1 232 2)), .ref 247]) (pc := 31) (dec_at lsk_158 (k := 19) rfl) m_11_171 (Or.inl rfl) rfl (Nat.le_of_ble_eq_true rfl) sx_232 me_150 rfl ?_ (fun _ _ h_ => h_)
    refine u_of me_150 (Nat.le_of_ble_eq_true rfl) ?_
    refine u_ld (v := iV ((((l3 * (u.1 232 2)) + l4) * (u.1 232 2)) + (ntz l7))) (pc := 0) (dec_at lsk_150 (k := 0) rfl) rfl ?_
    refine u_ld (v := .ref 232) (pc := 1) (dec_at lsk_150 (k := 1) rfl) rfl ?_
    refine u_gI (z := 2) (pc := 2) (dec_at lsk_150 (k := 2) rfl) f_11_25 sx_232 rfl rfl ?_
    refine u_idiv (pc := 5) (dec_at lsk_150 (k := 3) rfl) g15 g16 g17 ?_
    refine u_ld (v := .ref 232) (pc := 6) (dec_at lsk_150 (k := 4) rfl) rfl ?_
    refine u_gI (z := 2) (pc := 7) (dec_at lsk_150 (k := 5) rfl) f_11_25 sx_232 rfl rfl ?_
    refine u_irem (pc := 10) (dec_at lsk_150 (k := 6) rfl) g18 g16 g17 ?_
    refine u_rI (pc := 11) (dec_at lsk_150 (k := 7) rfl) rfl ?_
    refine u_csI (As := [iV ((((((l3 * (u.1 232 2)) + l4) * (u.1 232 2)) + (ntz l7)).tdiv (u13.1 232 2)).tdiv (u13.1 232 2)), iV ((((((l3 * (u.1 232 2)) + l4) * (u.1 232 2)) + (ntz l7)).tdiv (u13.1 232 2)).tmod (u13.1 232 2))]) (st2 := [.ref 247]) (pc := 34) (dec_at lsk_158 (k := 20) rfl) m_11_158 (Or.inr rfl) rfl (Nat.le_of_ble_eq_true rfl) ?_ (fun _ _ h_ => h_)
    refine u_of me_141 (Nat.le_of_ble_eq_true rfl) ?_
    refine u_ld (v := iV ((((((l3 * (u.1 232 2)) + l4) * (u.1 232 2)) + (ntz l7)).tdiv (u13.1 232 2)).tdiv (u13.1 232 2))) (pc := 0) (dec_at lsk_141 (k := 0) rfl) rfl ?_
    refine u_c (x := 40) (pc := 1) (dec_at lsk_141 (k := 1) rfl) rfl (by decide) ?_
    refine u_imul (pc := 3) (dec_at lsk_141 (k := 2) rfl) ?_
    refine u_ld (v := iV ((((((l3 * (u.1 232 2)) + l4) * (u.1 232 2)) + (ntz l7)).tdiv (u13.1 232 2)).tmod (u13.1 232 2))) (pc := 4) (dec_at lsk_141 (k := 3) rfl) rfl ?_
    refine u_iadd (pc := 5) (dec_at lsk_141 (k := 4) rfl) ?_
    refine u_rI (pc := 6) (dec_at lsk_141 (k := 5) rfl) rfl ?_
    refine u_st (st' := [iV ((((((((l3 * (u.1 232 2)) + l4) * (u.1 232 2)) + (ntz l7)).tdiv (u13.1 232 2)).tdiv (u13.1 232 2)) * 40) + ((((((l3 * (u.1 232 2)) + l4) * (u.1 232 2)) + (ntz l7)).tdiv (u13.1 232 2)).tmod (u13.1 232 2))), .ref 247, iV ((((((((l3 * (u.1 232 2)) + l4) * (u.1 232 2)) + (ntz l7)).tdiv (u13.1 232 2)).tdiv (u13.1 232 2)) * 40) + ((((((l3 * (u.1 232 2)) + l4) * (u.1 232 2)) + (ntz l7)).tdiv (u13.1 232 2)).tmod (u13.1 232 2))), .ref 247]) (pc := 37) (dec_at lsk_158 (k := 21) rfl) rfl ?_
    have g19 := h.1
    have h := h.2
    have g20 := h.1
    have h := h.2
    refine u_lald (pc := 38) (dec_at lsk_158 (k := 22) rfl) sx_247 g19 g20 ?_
    refine u_cl (x := 1) (pc := 39) (dec_at lsk_158 (k := 23) rfl) rfl (by decide) ?_
    refine u_ld (v := .ref 232) (pc := 40) (dec_at lsk_158 (k := 24) rfl) rfl ?_
    refine u_ld (v := iV ((((l3 * (u.1 232 2)) + l4) * (u.1 232 2)) + (ntz l7))) (pc := 41) (dec_at lsk_158 (k := 25) rfl) rfl ?_
    refine u_cvI (As := [iV ((((l3 * (u.1 232 2)) + l4) * (u.1 232 2)) + (ntz l7))]) (rb := 232) (st2 := [lV 1, lV (u13.1 247 ((((((((l3 * (u.1 232 2)) + l4) * (u.1 232 2)) + (ntz l7)).tdiv (u13.1 232 2)).tdiv (u13.1 232 2)) * 40) + ((((((l3 * (u.1 232 2)) + l4) * (u.1 232 2)) + (ntz l7)).tdiv (u13.1 232 2)).tmod (u13.1 232 2)))), iV ((((((((l3 * (u.1 232 2)) + l4) * (u.1 232 2)) + (ntz l7)).tdiv (u13.1 232 2)).tdiv (u13.1 232 2)) * 40) + ((((((l3 * (u.1 232 2)) + l4) * (u.1 232 2)) + (ntz l7)).tdiv (u13.1 232 2)).tmod (u13.1 232 2))), .ref 247]) (pc := 42) (dec_at lsk_158 (k := 26) rfl) m_11_174 (Or.inl rfl) rfl (Nat.le_of_ble_eq_true rfl) sx_232 me_151 rfl ?_ (fun _ _ h_ => h_)
    refine u_of me_151 (Nat.le_of_ble_eq_true rfl) ?_
    refine u_ld (v := iV ((((l3 * (u.1 232 2)) + l4) * (u.1 232 2)) + (ntz l7))) (pc := 0) (dec_at lsk_151 (k := 0) rfl) rfl ?_
    refine u_ld (v := .ref 232) (pc := 1) (dec_at lsk_151 (k := 1) rfl) rfl ?_
    refine u_gI (z := 2) (pc := 2) (dec_at lsk_151 (k := 2) rfl) f_11_25 sx_232 rfl rfl ?_
    refine u_irem (pc := 5) (dec_at lsk_151 (k := 3) rfl) g15 g16 g17 ?_
    refine u_rI (pc := 6) (dec_at lsk_151 (k := 4) rfl) rfl ?_
    refine u_lshl (pc := 45) (dec_at lsk_158 (k := 27) rfl) ?_
    refine u_lor (pc := 46) (dec_at lsk_158 (k := 28) rfl) ?_
    refine u_last (pc := 47) (dec_at lsk_158 (k := 29) rfl) sx_247 g19 g20 (fun u21 e22 => ?_)
    have h := h u21 e22
    refine u_rV (pc := 48) (dec_at lsk_158 (k := 30) rfl) rfl ?_
    refine u_ld (v := lV l7) (pc := 125) (dec_at lsk_164 (k := 67) rfl) rfl ?_
    refine u_ld (v := lV l7) (pc := 127) (dec_at lsk_164 (k := 68) rfl) rfl ?_
    refine u_cl (x := 1) (pc := 129) (dec_at lsk_164 (k := 69) rfl) rfl (by decide) ?_
    refine u_lsub (pc := 130) (dec_at lsk_164 (k := 70) rfl) ?_
    refine u_land (pc := 131) (dec_at lsk_164 (k := 71) rfl) ?_
    refine u_sto (lv' := [.ref 232, iV l1, iV l2, iV l3, iV l4, .retAddr 0, .retAddr 0, lV (land l7 (l7 - 1)), .retAddr 0, iV ((((l3 * (u.1 232 2)) + l4) * (u.1 232 2)) + (ntz l7))]) (pc := 132) (dec_at lsk_164 (k := 72) rfl) rfl ?_
    refine u_goto (pc := 134) (tgt := 80) (dec_at lsk_164 (k := 73) rfl) rfl ?_
    exact u_weak (sbK (sbK (sbK (sbK (sbK (sbK (sbK (sbK (sbK (sbD sb0)))))))))) h
