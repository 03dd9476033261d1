/-! Conditions (wip/tools/gen_k.py) -/
/-- method 132 -/
def K_132 (d pc : Nat) (lv : ev_L) (st : List Value) (u : uS) (Q : Int → uS → Prop) : Prop := okU d 8 7 false (some .boolean) prog_7_method_2_code (qI Q) pc lv st u
theorem e_132 {d : Nat} {Q : Int → uS → Prop} {u : uS} {l1 l2 : Nat} {l3 : Int} (hOl1 : isO l1 5) (hOl2 : isO l2 5) (h : ∀ u1 : uS, u1 = wq u 185 4 l1 → (∀ u3 : uS, u3 = wq u1 185 5 l2 → (∀ u5 : uS, u5 = wr u3 185 6 l3 → (K_132 d 18 [.ref 185, .retAddr 0, .retAddr 0, .retAddr 0, iV 0, .retAddr 0, .retAddr 0] [] u5 Q)))) : cI (d + 1) 132 [.ref 185, .ref l1, .ref l2, iV l3] u Q := by
  refine u_of me_132 (Nat.le_of_ble_eq_true rfl) ?_
  refine u_ld (v := .ref 185) (pc := 0) (dec_at lsk_132 (k := 0) rfl) rfl ?_
  refine u_ld (v := .ref l1) (pc := 1) (dec_at lsk_132 (k := 1) rfl) rfl ?_
  refine u_pR (z := 4) (pc := 2) (dec_at lsk_132 (k := 2) rfl) f_8_28 sx_185 rfl rfl rfl rfl rfl (fun u1 e2 => ?_)
  have h := h u1 e2
  refine u_ld (v := .ref 185) (pc := 5) (dec_at lsk_132 (k := 3) rfl) rfl ?_
  refine u_ld (v := .ref l2) (pc := 6) (dec_at lsk_132 (k := 4) rfl) rfl ?_
  refine u_pR (z := 5) (pc := 7) (dec_at lsk_132 (k := 5) rfl) f_8_32 sx_185 rfl rfl rfl rfl rfl (fun u3 e4 => ?_)
  have h := h u3 e4
  refine u_ld (v := .ref 185) (pc := 10) (dec_at lsk_132 (k := 6) rfl) rfl ?_
  refine u_ld (v := iV l3) (pc := 11) (dec_at lsk_132 (k := 7) rfl) rfl ?_
  refine u_pI (z := 6) (pc := 12) (dec_at lsk_132 (k := 8) rfl) f_8_35 sx_185 rfl rfl rfl rfl (fun u5 e6 => ?_)
  have h := h u5 e6
  refine u_ld (v := iV 0) (pc := 15) (dec_at lsk_132 (k := 9) rfl) rfl ?_
  refine u_sto (lv' := [.ref 185, .ref l1, .ref l2, iV l3, iV 0, .retAddr 0, .retAddr 0]) (pc := 16) (dec_at lsk_132 (k := 10) rfl) rfl ?_
  exact u_weak (sbK (sbD (sbD (sbD (sbK (sbK (sbK sb0))))))) h
theorem k_132_18 {d : Nat} {Q : Int → uS → Prop} {u : uS} {l4 : Int} (h : (rI l4) ∧ (if l4 < 1600 then ((0 ≤ l4) ∧ (∀ u4 : uS, u4 = wr u 189 l4 0 → (K_132 d 18 [.ref 185, .retAddr 0, .retAddr 0, .retAddr 0, iV (l4 + 1), .retAddr 0, .retAddr 0] [] u4 Q))) else (∀ u6 : uS, u6 = wr u 189 0 1 → (∀ u8 : uS, u8 = wr u6 187 0 (-1) → (∀ u10 : uS, u10 = wr u8 186 0 0 → (K_132 d 67 [.ref 185, .retAddr 0, .retAddr 0, .retAddr 0, iV 1, iV 0, .retAddr 0] [] u10 Q)))))) : K_132 d 18 [.ref 185, .retAddr 0, .retAddr 0, .retAddr 0, iV l4, .retAddr 0, .retAddr 0] [] u Q := by
  unfold K_132
  refine u_ld (v := iV l4) (pc := 18) (dec_at lsk_132 (k := 11) rfl) rfl ?_
  refine u_c (x := 1600) (pc := 20) (dec_at lsk_132 (k := 12) rfl) rfl (by decide) ?_
  have g1 := h.1
  have h := h.2
  refine u_icF (pc := 23) (tgt := 40) (dec_at lsk_132 (k := 13) rfl) rfl (ci_ge g1 (by decide)) (fun e2 => ?_) (fun e2 => ?_)
  · have h := ifT e2 h
    refine u_ld (v := .ref 185) (pc := 26) (dec_at lsk_132 (k := 14) rfl) rfl ?_
    refine u_gS (o := 4) (p := 189) (pc := 27) (dec_at lsk_132 (k := 15) rfl) f_8_21 sx_185 rfl rfl ?_
    refine u_ld (v := iV l4) (pc := 30) (dec_at lsk_132 (k := 16) rfl) rfl ?_
    refine u_ld (v := iV 0) (pc := 32) (dec_at lsk_132 (k := 17) rfl) rfl ?_
    have g3 := h.1
    have h := h.2
    refine u_zast (pc := 33) (dec_at lsk_132 (k := 18) rfl) sx_189 g3 e2 (by decide) (fun u4 e5 => ?_)
    have h := h u4 e5
    refine u_inc (lv' := [.ref 185, .retAddr 0, .retAddr 0, .retAddr 0, iV (l4 + 1), .retAddr 0, .retAddr 0]) (pc := 34) (dec_at lsk_132 (k := 19) rfl) rfl (by decide) rfl ?_
    refine u_goto (pc := 37) (tgt := 18) (dec_at lsk_132 (k := 20) rfl) rfl ?_
    exact h
  · have h := ifF e2 h
    refine u_ld (v := .ref 185) (pc := 40) (dec_at lsk_132 (k := 21) rfl) rfl ?_
    refine u_gS (o := 4) (p := 189) (pc := 41) (dec_at lsk_132 (k := 22) rfl) f_8_21 sx_185 rfl rfl ?_
    refine u_ld (v := iV 0) (pc := 44) (dec_at lsk_132 (k := 23) rfl) rfl ?_
    refine u_ld (v := iV 1) (pc := 45) (dec_at lsk_132 (k := 24) rfl) rfl ?_
    refine u_zast (pc := 46) (dec_at lsk_132 (k := 25) rfl) sx_189 (by decide) (by decide) (by decide) (fun u6 e7 => ?_)
    have h := h u6 e7
    refine u_ld (v := .ref 185) (pc := 47) (dec_at lsk_132 (k := 26) rfl) rfl ?_
    refine u_gS (o := 2) (p := 187) (pc := 48) (dec_at lsk_132 (k := 27) rfl) f_8_15 sx_185 rfl rfl ?_
    refine u_ld (v := iV 0) (pc := 51) (dec_at lsk_132 (k := 28) rfl) rfl ?_
    refine u_ld (v := iV (-1)) (pc := 52) (dec_at lsk_132 (k := 29) rfl) rfl ?_
    refine u_iast (pc := 53) (dec_at lsk_132 (k := 30) rfl) sx_187 (by decide) (by decide) (fun u8 e9 => ?_)
    have h := h u8 e9
    refine u_ld (v := .ref 185) (pc := 54) (dec_at lsk_132 (k := 31) rfl) rfl ?_
    refine u_gS (o := 1) (p := 186) (pc := 55) (dec_at lsk_132 (k := 32) rfl) f_8_11 sx_185 rfl rfl ?_
    refine u_ld (v := iV 0) (pc := 58) (dec_at lsk_132 (k := 33) rfl) rfl ?_
    refine u_ld (v := iV 0) (pc := 59) (dec_at lsk_132 (k := 34) rfl) rfl ?_
    refine u_iast (pc := 60) (dec_at lsk_132 (k := 35) rfl) sx_186 (by decide) (by decide) (fun u10 e11 => ?_)
    have h := h u10 e11
    refine u_ld (v := iV 1) (pc := 61) (dec_at lsk_132 (k := 36) rfl) rfl ?_
    refine u_sto (lv' := [.ref 185, .retAddr 0, .retAddr 0, .retAddr 0, iV 1, .retAddr 0, .retAddr 0]) (pc := 62) (dec_at lsk_132 (k := 37) rfl) rfl ?_
    refine u_ld (v := iV 0) (pc := 64) (dec_at lsk_132 (k := 38) rfl) rfl ?_
    refine u_sto (lv' := [.ref 185, .retAddr 0, .retAddr 0, .retAddr 0, iV 1, iV 0, .retAddr 0]) (pc := 65) (dec_at lsk_132 (k := 39) rfl) rfl ?_
    exact h
theorem k_132_67 {d : Nat} {Q : Int → uS → Prop} {u : uS} {l4 l5 : Int} (h : (rI l5) ∧ ((rI l4) ∧ (if l5 < l4 then (if l5 < 1600 then ((0 ≤ l5) ∧ (cI d 133 [.ref 185, iV (u.1 186 l5)] u (fun r7 u6 => (rI r7) ∧ (if r7 = 0 then (cI d 134 [.ref 185, iV (u.1 186 l5), iV l4] u6 (fun r11 u10 => K_132 d 67 [.ref 185, .retAddr 0, .retAddr 0, .retAddr 0, iV r11, iV (l5 + 1), .retAddr 0] [] u10 Q)) else (∀ u12 : uS, u12 = wr u6 185 7 (u.1 186 l5) → (Q 1 u12)))))) else (Q 0 u)) else (Q 0 u)))) : K_132 d 67 [.ref 185, .retAddr 0, .retAddr 0, .retAddr 0, iV l4, iV l5, .retAddr 0] [] u Q := by
  unfold K_132
  refine u_ld (v := iV l5) (pc := 67) (dec_at lsk_132 (k := 40) rfl) rfl ?_
  refine u_ld (v := iV l4) (pc := 69) (dec_at lsk_132 (k := 41) rfl) rfl ?_
  have g1 := h.1
  have h := h.2
  have g2 := h.1
  have h := h.2
  refine u_icF (pc := 71) (tgt := 124) (dec_at lsk_132 (k := 42) rfl) rfl (ci_ge g1 g2) (fun e3 => ?_) (fun e3 => ?_)
  · have h := ifT e3 h
    refine u_ld (v := iV l5) (pc := 74) (dec_at lsk_132 (k := 43) rfl) rfl ?_
    refine u_c (x := 1600) (pc := 76) (dec_at lsk_132 (k := 44) rfl) rfl (by decide) ?_
    refine u_icF (pc := 79) (tgt := 124) (dec_at lsk_132 (k := 45) rfl) rfl (ci_ge g1 (by decide)) (fun e4 => ?_) (fun e4 => ?_)
    · have h := ifT e4 h
      refine u_ld (v := .ref 185) (pc := 82) (dec_at lsk_132 (k := 46) rfl) rfl ?_
      refine u_gS (o := 1) (p := 186) (pc := 83) (dec_at lsk_132 (k := 47) rfl) f_8_11 sx_185 rfl rfl ?_
      refine u_ld (v := iV l5) (pc := 86) (dec_at lsk_132 (k := 48) rfl) rfl ?_
      have g5 := h.1
      have h := h.2
      refine u_iald (pc := 88) (dec_at lsk_132 (k := 49) rfl) sx_186 g5 e4 ?_
      refine u_sto (lv' := [.ref 185, .retAddr 0, .retAddr 0, .retAddr 0, iV l4, iV l5, iV (u.1 186 l5)]) (pc := 89) (dec_at lsk_132 (k := 50) rfl) rfl ?_
      refine u_ld (v := .ref 185) (pc := 91) (dec_at lsk_132 (k := 51) rfl) rfl ?_
      refine u_ld (v := iV (u.1 186 l5)) (pc := 92) (dec_at lsk_132 (k := 52) rfl) rfl ?_
      refine u_cvI (As := [iV (u.1 186 l5)]) (rb := 185) (st2 := []) (pc := 94) (dec_at lsk_132 (k := 53) rfl) m_8_39 (Or.inl rfl) rfl (Nat.le_of_ble_eq_true rfl) sx_185 me_133 rfl h (fun r7 u6 h => ?_)
      have g8 := h.1
      have h := h.2
      refine u_ifT (pc := 97) (tgt := 108) (dec_at lsk_132 (k := 54) rfl) rfl (c0_eq g8) (fun e9 => ?_) (fun e9 => ?_)
      · have h := ifT e9 h
        refine u_ld (v := .ref 185) (pc := 108) (dec_at lsk_132 (k := 60) rfl) rfl ?_
        refine u_ld (v := iV (u.1 186 l5)) (pc := 109) (dec_at lsk_132 (k := 61) rfl) rfl ?_
        refine u_ld (v := iV l4) (pc := 111) (dec_at lsk_132 (k := 62) rfl) rfl ?_
        refine u_cvI (As := [iV (u.1 186 l5), iV l4]) (rb := 185) (st2 := []) (pc := 113) (dec_at lsk_132 (k := 63) rfl) m_8_46 (Or.inl rfl) rfl (Nat.le_of_ble_eq_true rfl) sx_185 me_134 rfl h (fun r11 u10 h => ?_)
        refine u_sto (lv' := [.ref 185, .retAddr 0, .retAddr 0, .retAddr 0, iV r11, iV l5, iV (u.1 186 l5)]) (pc := 116) (dec_at lsk_132 (k := 64) rfl) rfl ?_
        refine u_inc (lv' := [.ref 185, .retAddr 0, .retAddr 0, .retAddr 0, iV r11, iV (l5 + 1), iV (u.1 186 l5)]) (pc := 118) (dec_at lsk_132 (k := 65) rfl) rfl (by decide) rfl ?_
        refine u_goto (pc := 121) (tgt := 67) (dec_at lsk_132 (k := 66) rfl) rfl ?_
        exact u_weak (sbK (sbK (sbK (sbK (sbK (sbK (sbD sb0))))))) h
      · have h := ifF e9 h
        refine u_ld (v := .ref 185) (pc := 100) (dec_at lsk_132 (k := 55) rfl) rfl ?_
        refine u_ld (v := iV (u.1 186 l5)) (pc := 101) (dec_at lsk_132 (k := 56) rfl) rfl ?_
        refine u_pI (z := 7) (pc := 103) (dec_at lsk_132 (k := 57) rfl) f_8_43 sx_185 rfl rfl rfl rfl (fun u12 e13 => ?_)
        have h := h u12 e13
        refine u_ld (v := iV 1) (pc := 106) (dec_at lsk_132 (k := 58) rfl) rfl ?_
        exact u_rZ (pc := 107) (dec_at lsk_132 (k := 59) rfl) rfl (by decide) h
    · have h := ifF e4 h
      refine u_ld (v := iV 0) (pc := 124) (dec_at lsk_132 (k := 67) rfl) rfl ?_
      exact u_rZ (pc := 125) (dec_at lsk_132 (k := 68) rfl) rfl (by decide) h
  · have h := ifF e3 h
    refine u_ld (v := iV 0) (pc := 124) (dec_at lsk_132 (k := 67) rfl) rfl ?_
    exact u_rZ (pc := 125) (dec_at lsk_132 (k := 68) rfl) rfl (by decide) h
/-- method 133 -/
def K_133 (d pc : Nat) (lv : ev_L) (st : List Value) (u : uS) (Q : Int → uS → Prop) : Prop := okU d 8 4 false (some .boolean) prog_7_method_4_code (qI Q) pc lv st u
theorem e_133 {d : Nat} {Q : Int → uS → Prop} {u : uS} {l1 : Int} (h : (rI l1) ∧ ((isO (u.2 185 4) 5) ∧ (if land (lushr (u.1 (u.2 185 4) 1) (l1.tdiv 40)) 1 = 0 then ((isO (u.2 185 5) 5) ∧ (if land (lushr (u.1 (u.2 185 5) 1) (l1.tmod 40)) 1 = 0 then ((rI (u.1 185 6)) ∧ (if u.1 185 6 = 0 then (Q 0 u) else (if u.1 185 6 = 1 then (Q 0 u) else (if u.1 185 6 = 2 then (Q 0 u) else (Q 1 u))))) else ((rI (u.1 185 6)) ∧ (if u.1 185 6 = 0 then (Q 0 u) else (if u.1 185 6 = 1 then (Q 1 u) else (if u.1 185 6 = 2 then (Q 0 u) else (Q 0 u))))))) else ((isO (u.2 185 5) 5) ∧ (if land (lushr (u.1 (u.2 185 5) 1) (l1.tmod 40)) 1 = 0 then ((rI (u.1 185 6)) ∧ (if u.1 185 6 = 0 then (Q 1 u) else (if u.1 185 6 = 1 then (Q 0 u) else (if u.1 185 6 = 2 then (Q 0 u) else (Q 0 u))))) else ((rI (u.1 185 6)) ∧ (if u.1 185 6 = 0 then (Q 0 u) else (if u.1 185 6 = 1 then (Q 0 u) else (if u.1 185 6 = 2 then (Q 1 u) else (Q 0 u)))))))))) : cI (d + 2) 133 [.ref 185, iV l1] u Q := by
  refine u_of me_133 (Nat.le_of_ble_eq_true rfl) ?_
  refine u_ld (v := .ref 185) (pc := 0) (dec_at lsk_133 (k := 0) rfl) rfl ?_
  refine u_gR (z := 4) (pc := 1) (dec_at lsk_133 (k := 1) rfl) f_8_28 sx_185 rfl rfl ?_
  refine u_ld (v := iV l1) (pc := 4) (dec_at lsk_133 (k := 2) rfl) rfl ?_
  refine u_c (x := 40) (pc := 5) (dec_at lsk_133 (k := 3) rfl) rfl (by decide) ?_
  have g1 := h.1
  have h := h.2
  refine u_idiv (pc := 7) (dec_at lsk_133 (k := 4) rfl) g1 (by decide) (by decide) ?_
  have g2 := h.1
  have h := h.2
  refine u_cvI (As := [iV (l1.tdiv 40)]) (rb := u.2 185 4) (st2 := []) (pc := 8) (dec_at lsk_133 (k := 5) rfl) m_8_53 (Or.inl rfl) rfl (Nat.le_of_ble_eq_true rfl) g2 me_71 rfl ?_ (fun _ _ h_ => h_)
  refine u_of me_71 (Nat.le_of_ble_eq_true rfl) ?_
  refine u_ld (v := .ref (u.2 185 4)) (pc := 0) (dec_at lsk_71 (k := 0) rfl) rfl ?_
  refine u_gL (z := 1) (pc := 1) (dec_at lsk_71 (k := 1) rfl) f_5_19 g2 rfl rfl ?_
  refine u_ld (v := iV (l1.tdiv 40)) (pc := 4) (dec_at lsk_71 (k := 2) rfl) rfl ?_
  refine u_lushr (pc := 5) (dec_at lsk_71 (k := 3) rfl) ?_
  refine u_cl (x := 1) (pc := 6) (dec_at lsk_71 (k := 4) rfl) rfl (by decide) ?_
  refine u_land (pc := 7) (dec_at lsk_71 (k := 5) rfl) ?_
  refine u_cl (x := 0) (pc := 8) (dec_at lsk_71 (k := 6) rfl) rfl (by decide) ?_
  refine u_st (st' := [.int (lg_cmp (Int64.ofInt (land (lushr (u.1 (u.2 185 4) 1) (l1.tdiv 40)) 1)) (Int64.ofInt 0))]) (pc := 9) (dec_at lsk_71 (k := 7) rfl) rfl ?_
  refine u_ifT (pc := 10) (tgt := 17) (dec_at lsk_71 (k := 8) rfl) rfl (cl_eq (rl_toInt _) (by decide)) (fun e3 => ?_) (fun e3 => ?_)
  · have h := ifT e3 h
    refine u_ld (v := iV 0) (pc := 17) (dec_at lsk_71 (k := 11) rfl) rfl ?_
    refine u_rZ (pc := 18) (dec_at lsk_71 (k := 12) rfl) rfl (by decide) ?_
    refine u_sto (lv' := [.ref 185, iV l1, iV 0, .retAddr 0]) (pc := 11) (dec_at lsk_133 (k := 6) rfl) rfl ?_
    refine u_ld (v := .ref 185) (pc := 12) (dec_at lsk_133 (k := 7) rfl) rfl ?_
    refine u_gR (z := 5) (pc := 13) (dec_at lsk_133 (k := 8) rfl) f_8_32 sx_185 rfl rfl ?_
    refine u_ld (v := iV l1) (pc := 16) (dec_at lsk_133 (k := 9) rfl) rfl ?_
    refine u_c (x := 40) (pc := 17) (dec_at lsk_133 (k := 10) rfl) rfl (by decide) ?_
    refine u_irem (pc := 19) (dec_at lsk_133 (k := 11) rfl) g1 (by decide) (by decide) ?_
    have g4 := h.1
    have h := h.2
    refine u_cvI (As := [iV (l1.tmod 40)]) (rb := u.2 185 5) (st2 := []) (pc := 20) (dec_at lsk_133 (k := 12) rfl) m_8_53 (Or.inl rfl) rfl (Nat.le_of_ble_eq_true rfl) g4 me_71 rfl ?_ (fun _ _ h_ => h_)
    refine u_of me_71 (Nat.le_of_ble_eq_true rfl) ?_
    refine u_ld (v := .ref (u.2 185 5)) (pc := 0) (dec_at lsk_71 (k := 0) rfl) rfl ?_
    refine u_gL (z := 1) (pc := 1) (dec_at lsk_71 (k := 1) rfl) f_5_19 g4 rfl rfl ?_
    refine u_ld (v := iV (l1.tmod 40)) (pc := 4) (dec_at lsk_71 (k := 2) rfl) rfl ?_
    refine u_lushr (pc := 5) (dec_at lsk_71 (k := 3) rfl) ?_
    refine u_cl (x := 1) (pc := 6) (dec_at lsk_71 (k := 4) rfl) rfl (by decide) ?_
    refine u_land (pc := 7) (dec_at lsk_71 (k := 5) rfl) ?_
    refine u_cl (x := 0) (pc := 8) (dec_at lsk_71 (k := 6) rfl) rfl (by decide) ?_
    refine u_st (st' := [.int (lg_cmp (Int64.ofInt (land (lushr (u.1 (u.2 185 5) 1) (l1.tmod 40)) 1)) (Int64.ofInt 0))]) (pc := 9) (dec_at lsk_71 (k := 7) rfl) rfl ?_
    refine u_ifT (pc := 10) (tgt := 17) (dec_at lsk_71 (k := 8) rfl) rfl (cl_eq (rl_toInt _) (by decide)) (fun e5 => ?_) (fun e5 => ?_)
    · have h := ifT e5 h
      refine u_ld (v := iV 0) (pc := 17) (dec_at lsk_71 (k := 11) rfl) rfl ?_
      refine u_rZ (pc := 18) (dec_at lsk_71 (k := 12) rfl) rfl (by decide) ?_
      refine u_sto (lv' := [.ref 185, iV l1, iV 0, iV 0]) (pc := 23) (dec_at lsk_133 (k := 13) rfl) rfl ?_
      refine u_ld (v := .ref 185) (pc := 24) (dec_at lsk_133 (k := 14) rfl) rfl ?_
      refine u_gI (z := 6) (pc := 25) (dec_at lsk_133 (k := 15) rfl) f_8_35 sx_185 rfl rfl ?_
      have g6 := h.1
      have h := h.2
      by_cases e7 : u.1 185 6 = 0
      · have h := ifT e7 h
        refine u_ts (pc := 28) (tgt := 56) (o := 28) (dec_at lsk_133 (k := 16) rfl) g6 (by omega) (by rw [e7]; rfl) rfl ?_
        refine u_ld (v := iV 0) (pc := 56) (dec_at lsk_133 (k := 17) rfl) rfl ?_
        refine u_ifT (pc := 57) (tgt := 68) (dec_at lsk_133 (k := 18) rfl) rfl (c0_eq (by decide)) (fun _ => ?_) (fun e => absurd e (by decide))
        refine u_ld (v := iV 0) (pc := 68) (dec_at lsk_133 (k := 23) rfl) rfl ?_
        exact u_rZ (pc := 69) (dec_at lsk_133 (k := 24) rfl) rfl (by decide) h
      · have h := ifF e7 h
        by_cases e8 : u.1 185 6 = 1
        · have h := ifT e8 h
          refine u_ts (pc := 28) (tgt := 70) (o := 42) (dec_at lsk_133 (k := 16) rfl) g6 (by omega) (by rw [e8]; rfl) rfl ?_
          refine u_ld (v := iV 0) (pc := 70) (dec_at lsk_133 (k := 25) rfl) rfl ?_
          refine u_ifF (pc := 71) (tgt := 82) (dec_at lsk_133 (k := 26) rfl) rfl (c0_ne (by decide)) (fun _ => ?_) (fun e => absurd e (by decide))
          refine u_ld (v := iV 0) (pc := 74) (dec_at lsk_133 (k := 27) rfl) rfl ?_
          refine u_ifT (pc := 75) (tgt := 82) (dec_at lsk_133 (k := 28) rfl) rfl (c0_eq (by decide)) (fun _ => ?_) (fun e => absurd e (by decide))
          refine u_ld (v := iV 0) (pc := 82) (dec_at lsk_133 (k := 31) rfl) rfl ?_
          exact u_rZ (pc := 83) (dec_at lsk_133 (k := 32) rfl) rfl (by decide) h
        · have h := ifF e8 h
          by_cases e9 : u.1 185 6 = 2
          · have h := ifT e9 h
            refine u_ts (pc := 28) (tgt := 84) (o := 56) (dec_at lsk_133 (k := 16) rfl) g6 (by omega) (by rw [e9]; rfl) rfl ?_
            refine u_ld (v := iV 0) (pc := 84) (dec_at lsk_133 (k := 33) rfl) rfl ?_
            refine u_ifT (pc := 85) (tgt := 96) (dec_at lsk_133 (k := 34) rfl) rfl (c0_eq (by decide)) (fun _ => ?_) (fun e => absurd e (by decide))
            refine u_ld (v := iV 0) (pc := 96) (dec_at lsk_133 (k := 39) rfl) rfl ?_
            exact u_rZ (pc := 97) (dec_at lsk_133 (k := 40) rfl) rfl (by decide) h
          · have h := ifF e9 h
            refine u_td (pc := 28) (tgt := 98) (dec_at lsk_133 (k := 16) rfl) g6 (by omega) rfl ?_
            refine u_ld (v := iV 0) (pc := 98) (dec_at lsk_133 (k := 41) rfl) rfl ?_
            refine u_ifF (pc := 99) (tgt := 110) (dec_at lsk_133 (k := 42) rfl) rfl (c0_ne (by decide)) (fun _ => ?_) (fun e => absurd e (by decide))
            refine u_ld (v := iV 0) (pc := 102) (dec_at lsk_133 (k := 43) rfl) rfl ?_
            refine u_ifF (pc := 103) (tgt := 110) (dec_at lsk_133 (k := 44) rfl) rfl (c0_ne (by decide)) (fun _ => ?_) (fun e => absurd e (by decide))
            refine u_ld (v := iV 1) (pc := 106) (dec_at lsk_133 (k := 45) rfl) rfl ?_
            refine u_goto (pc := 107) (tgt := 111) (dec_at lsk_133 (k := 46) rfl) rfl ?_
            exact u_rZ (pc := 111) (dec_at lsk_133 (k := 48) rfl) rfl (by decide) h
    · have h := ifF e5 h
      refine u_ld (v := iV 1) (pc := 13) (dec_at lsk_71 (k := 9) rfl) rfl ?_
      refine u_goto (pc := 14) (tgt := 18) (dec_at lsk_71 (k := 10) rfl) rfl ?_
      refine u_rZ (pc := 18) (dec_at lsk_71 (k := 12) rfl) rfl (by decide) ?_
      refine u_sto (lv' := [.ref 185, iV l1, iV 0, iV 1]) (pc := 23) (dec_at lsk_133 (k := 13) rfl) rfl ?_
      refine u_ld (v := .ref 185) (pc := 24) (dec_at lsk_133 (k := 14) rfl) rfl ?_
      refine u_gI (z := 6) (pc := 25) (dec_at lsk_133 (k := 15) rfl) f_8_35 sx_185 rfl rfl ?_
      have g10 := h.1
      have h := h.2
      by_cases e11 : u.1 185 6 = 0
      · have h := ifT e11 h
        refine u_ts (pc := 28) (tgt := 56) (o := 28) (dec_at lsk_133 (k := 16) rfl) g10 (by omega) (by rw [e11]; rfl) rfl ?_
        refine u_ld (v := iV 0) (pc := 56) (dec_at lsk_133 (k := 17) rfl) rfl ?_
        refine u_ifT (pc := 57) (tgt := 68) (dec_at lsk_133 (k := 18) rfl) rfl (c0_eq (by decide)) (fun _ => ?_) (fun e => absurd e (by decide))
        refine u_ld (v := iV 0) (pc := 68) (dec_at lsk_133 (k := 23) rfl) rfl ?_
        exact u_rZ (pc := 69) (dec_at lsk_133 (k := 24) rfl) rfl (by decide) h
      · have h := ifF e11 h
        by_cases e12 : u.1 185 6 = 1
        · have h := ifT e12 h
          refine u_ts (pc := 28) (tgt := 70) (o := 42) (dec_at lsk_133 (k := 16) rfl) g10 (by omega) (by rw [e12]; rfl) rfl ?_
          refine u_ld (v := iV 0) (pc := 70) (dec_at lsk_133 (k := 25) rfl) rfl ?_
          refine u_ifF (pc := 71) (tgt := 82) (dec_at lsk_133 (k := 26) rfl) rfl (c0_ne (by decide)) (fun _ => ?_) (fun e => absurd e (by decide))
          refine u_ld (v := iV 1) (pc := 74) (dec_at lsk_133 (k := 27) rfl) rfl ?_
          refine u_ifT (pc := 75) (tgt := 82) (dec_at lsk_133 (k := 28) rfl) rfl (c0_eq (by decide)) (fun e => absurd e (by decide)) (fun _ => ?_)
          refine u_ld (v := iV 1) (pc := 78) (dec_at lsk_133 (k := 29) rfl) rfl ?_
          refine u_goto (pc := 79) (tgt := 83) (dec_at lsk_133 (k := 30) rfl) rfl ?_
          exact u_rZ (pc := 83) (dec_at lsk_133 (k := 32) rfl) rfl (by decide) h
        · have h := ifF e12 h
          by_cases e13 : u.1 185 6 = 2
          · have h := ifT e13 h
            refine u_ts (pc := 28) (tgt := 84) (o := 56) (dec_at lsk_133 (k := 16) rfl) g10 (by omega) (by rw [e13]; rfl) rfl ?_
            refine u_ld (v := iV 0) (pc := 84) (dec_at lsk_133 (k := 33) rfl) rfl ?_
            refine u_ifT (pc := 85) (tgt := 96) (dec_at lsk_133 (k := 34) rfl) rfl (c0_eq (by decide)) (fun _ => ?_) (fun e => absurd e (by decide))
            refine u_ld (v := iV 0) (pc := 96) (dec_at lsk_133 (k := 39) rfl) rfl ?_
            exact u_rZ (pc := 97) (dec_at lsk_133 (k := 40) rfl) rfl (by decide) h
          · have h := ifF e13 h
            refine u_td (pc := 28) (tgt := 98) (dec_at lsk_133 (k := 16) rfl) g10 (by omega) rfl ?_
            refine u_ld (v := iV 0) (pc := 98) (dec_at lsk_133 (k := 41) rfl) rfl ?_
            refine u_ifF (pc := 99) (tgt := 110) (dec_at lsk_133 (k := 42) rfl) rfl (c0_ne (by decide)) (fun _ => ?_) (fun e => absurd e (by decide))
            refine u_ld (v := iV 1) (pc := 102) (dec_at lsk_133 (k := 43) rfl) rfl ?_
            refine u_ifF (pc := 103) (tgt := 110) (dec_at lsk_133 (k := 44) rfl) rfl (c0_ne (by decide)) (fun e => absurd e (by decide)) (fun _ => ?_)
            refine u_ld (v := iV 0) (pc := 110) (dec_at lsk_133 (k := 47) rfl) rfl ?_
            exact u_rZ (pc := 111) (dec_at lsk_133 (k := 48) rfl) rfl (by decide) h
  · have h := ifF e3 h
    refine u_ld (v := iV 1) (pc := 13) (dec_at lsk_71 (k := 9) rfl) rfl ?_
    refine u_goto (pc := 14) (tgt := 18) (dec_at lsk_71 (k := 10) rfl) rfl ?_
    refine u_rZ (pc := 18) (dec_at lsk_71 (k := 12) rfl) rfl (by decide) ?_
    refine u_sto (lv' := [.ref 185, iV l1, iV 1, .retAddr 0]) (pc := 11) (dec_at lsk_133 (k := 6) rfl) rfl ?_
    refine u_ld (v := .ref 185) (pc := 12) (dec_at lsk_133 (k := 7) rfl) rfl ?_
    refine u_gR (z := 5) (pc := 13) (dec_at lsk_133 (k := 8) rfl) f_8_32 sx_185 rfl rfl ?_
    refine u_ld (v := iV l1) (pc := 16) (dec_at lsk_133 (k := 9) rfl) rfl ?_
    refine u_c (x := 40) (pc := 17) (dec_at lsk_133 (k := 10) rfl) rfl (by decide) ?_
    refine u_irem (pc := 19) (dec_at lsk_133 (k := 11) rfl) g1 (by decide) (by decide) ?_
    have g14 := h.1
    have h := h.2
    refine u_cvI (As := [iV (l1.tmod 40)]) (rb := u.2 185 5) (st2 := []) (pc := 20) (dec_at lsk_133 (k := 12) rfl) m_8_53 (Or.inl rfl) rfl (Nat.le_of_ble_eq_true rfl) g14 me_71 rfl ?_ (fun _ _ h_ => h_)
    refine u_of me_71 (Nat.le_of_ble_eq_true rfl) ?_
    refine u_ld (v := .ref (u.2 185 5)) (pc := 0) (dec_at lsk_71 (k := 0) rfl) rfl ?_
    refine u_gL (z := 1) (pc := 1) (dec_at lsk_71 (k := 1) rfl) f_5_19 g14 rfl rfl ?_
    refine u_ld (v := iV (l1.tmod 40)) (pc := 4) (dec_at lsk_71 (k := 2) rfl) rfl ?_
    refine u_lushr (pc := 5) (dec_at lsk_71 (k := 3) rfl) ?_
    refine u_cl (x := 1) (pc := 6) (dec_at lsk_71 (k := 4) rfl) rfl (by decide) ?_
    refine u_land (pc := 7) (dec_at lsk_71 (k := 5) rfl) ?_
    refine u_cl (x := 0) (pc := 8) (dec_at lsk_71 (k := 6) rfl) rfl (by decide) ?_
    refine u_st (st' := [.int (lg_cmp (Int64.ofInt (land (lushr (u.1 (u.2 185 5) 1) (l1.tmod 40)) 1)) (Int64.ofInt 0))]) (pc := 9) (dec_at lsk_71 (k := 7) rfl) rfl ?_
    refine u_ifT (pc := 10) (tgt := 17) (dec_at lsk_71 (k := 8) rfl) rfl (cl_eq (rl_toInt _) (by decide)) (fun e15 => ?_) (fun e15 => ?_)
    · have h := ifT e15 h
      refine u_ld (v := iV 0) (pc := 17) (dec_at lsk_71 (k := 11) rfl) rfl ?_
      refine u_rZ (pc := 18) (dec_at lsk_71 (k := 12) rfl) rfl (by decide) ?_
      refine u_sto (lv' := [.ref 185, iV l1, iV 1, iV 0]) (pc := 23) (dec_at lsk_133 (k := 13) rfl) rfl ?_
      refine u_ld (v := .ref 185) (pc := 24) (dec_at lsk_133 (k := 14) rfl) rfl ?_
      refine u_gI (z := 6) (pc := 25) (dec_at lsk_133 (k := 15) rfl) f_8_35 sx_185 rfl rfl ?_
      have g16 := h.1
      have h := h.2
      by_cases e17 : u.1 185 6 = 0
      · have h := ifT e17 h
        refine u_ts (pc := 28) (tgt := 56) (o := 28) (dec_at lsk_133 (k := 16) rfl) g16 (by omega) (by rw [e17]; rfl) rfl ?_
        refine u_ld (v := iV 1) (pc := 56) (dec_at lsk_133 (k := 17) rfl) rfl ?_
        refine u_ifT (pc := 57) (tgt := 68) (dec_at lsk_133 (k := 18) rfl) rfl (c0_eq (by decide)) (fun e => absurd e (by decide)) (fun _ => ?_)
        refine u_ld (v := iV 0) (pc := 60) (dec_at lsk_133 (k := 19) rfl) rfl ?_
        refine u_ifF (pc := 61) (tgt := 68) (dec_at lsk_133 (k := 20) rfl) rfl (c0_ne (by decide)) (fun _ => ?_) (fun e => absurd e (by decide))
        refine u_ld (v := iV 1) (pc := 64) (dec_at lsk_133 (k := 21) rfl) rfl ?_
        refine u_goto (pc := 65) (tgt := 69) (dec_at lsk_133 (k := 22) rfl) rfl ?_
        exact u_rZ (pc := 69) (dec_at lsk_133 (k := 24) rfl) rfl (by decide) h
      · have h := ifF e17 h
        by_cases e18 : u.1 185 6 = 1
        · have h := ifT e18 h
          refine u_ts (pc := 28) (tgt := 70) (o := 42) (dec_at lsk_133 (k := 16) rfl) g16 (by omega) (by rw [e18]; rfl) rfl ?_
          refine u_ld (v := iV 1) (pc := 70) (dec_at lsk_133 (k := 25) rfl) rfl ?_
          refine u_ifF (pc := 71) (tgt := 82) (dec_at lsk_133 (k := 26) rfl) rfl (c0_ne (by decide)) (fun e => absurd e (by decide)) (fun _ => ?_)
          refine u_ld (v := iV 0) (pc := 82) (dec_at lsk_133 (k := 31) rfl) rfl ?_
          exact u_rZ (pc := 83) (dec_at lsk_133 (k := 32) rfl) rfl (by decide) h
        · have h := ifF e18 h
          by_cases e19 : u.1 185 6 = 2
          · have h := ifT e19 h
            refine u_ts (pc := 28) (tgt := 84) (o := 56) (dec_at lsk_133 (k := 16) rfl) g16 (by omega) (by rw [e19]; rfl) rfl ?_
            refine u_ld (v := iV 1) (pc := 84) (dec_at lsk_133 (k := 33) rfl) rfl ?_
            refine u_ifT (pc := 85) (tgt := 96) (dec_at lsk_133 (k := 34) rfl) rfl (c0_eq (by decide)) (fun e => absurd e (by decide)) (fun _ => ?_)
            refine u_ld (v := iV 0) (pc := 88) (dec_at lsk_133 (k := 35) rfl) rfl ?_
            refine u_ifT (pc := 89) (tgt := 96) (dec_at lsk_133 (k := 36) rfl) rfl (c0_eq (by decide)) (fun _ => ?_) (fun e => absurd e (by decide))
            refine u_ld (v := iV 0) (pc := 96) (dec_at lsk_133 (k := 39) rfl) rfl ?_
            exact u_rZ (pc := 97) (dec_at lsk_133 (k := 40) rfl) rfl (by decide) h
          · have h := ifF e19 h
            refine u_td (pc := 28) (tgt := 98) (dec_at lsk_133 (k := 16) rfl) g16 (by omega) rfl ?_
            refine u_ld (v := iV 1) (pc := 98) (dec_at lsk_133 (k := 41) rfl) rfl ?_
            refine u_ifF (pc := 99) (tgt := 110) (dec_at lsk_133 (k := 42) rfl) rfl (c0_ne (by decide)) (fun e => absurd e (by decide)) (fun _ => ?_)
            refine u_ld (v := iV 0) (pc := 110) (dec_at lsk_133 (k := 47) rfl) rfl ?_
            exact u_rZ (pc := 111) (dec_at lsk_133 (k := 48) rfl) rfl (by decide) h
    · have h := ifF e15 h
      refine u_ld (v := iV 1) (pc := 13) (dec_at lsk_71 (k := 9) rfl) rfl ?_
      refine u_goto (pc := 14) (tgt := 18) (dec_at lsk_71 (k := 10) rfl) rfl ?_
      refine u_rZ (pc := 18) (dec_at lsk_71 (k := 12) rfl) rfl (by decide) ?_
      refine u_sto (lv' := [.ref 185, iV l1, iV 1, iV 1]) (pc := 23) (dec_at lsk_133 (k := 13) rfl) rfl ?_
      refine u_ld (v := .ref 185) (pc := 24) (dec_at lsk_133 (k := 14) rfl) rfl ?_
      refine u_gI (z := 6) (pc := 25) (dec_at lsk_133 (k := 15) rfl) f_8_35 sx_185 rfl rfl ?_
      have g20 := h.1
      have h := h.2
      by_cases e21 : u.1 185 6 = 0
      · have h := ifT e21 h
        refine u_ts (pc := 28) (tgt := 56) (o := 28) (dec_at lsk_133 (k := 16) rfl) g20 (by omega) (by rw [e21]; rfl) rfl ?_
        refine u_ld (v := iV 1) (pc := 56) (dec_at lsk_133 (k := 17) rfl) rfl ?_
        refine u_ifT (pc := 57) (tgt := 68) (dec_at lsk_133 (k := 18) rfl) rfl (c0_eq (by decide)) (fun e => absurd e (by decide)) (fun _ => ?_)
        refine u_ld (v := iV 1) (pc := 60) (dec_at lsk_133 (k := 19) rfl) rfl ?_
        refine u_ifF (pc := 61) (tgt := 68) (dec_at lsk_133 (k := 20) rfl) rfl (c0_ne (by decide)) (fun e => absurd e (by decide)) (fun _ => ?_)
        refine u_ld (v := iV 0) (pc := 68) (dec_at lsk_133 (k := 23) rfl) rfl ?_
        exact u_rZ (pc := 69) (dec_at lsk_133 (k := 24) rfl) rfl (by decide) h
      · have h := ifF e21 h
        by_cases e22 : u.1 185 6 = 1
        · have h := ifT e22 h
          refine u_ts (pc := 28) (tgt := 70) (o := 42) (dec_at lsk_133 (k := 16) rfl) g20 (by omega) (by rw [e22]; rfl) rfl ?_
          refine u_ld (v := iV 1) (pc := 70) (dec_at lsk_133 (k := 25) rfl) rfl ?_
          refine u_ifF (pc := 71) (tgt := 82) (dec_at lsk_133 (k := 26) rfl) rfl (c0_ne (by decide)) (fun e => absurd e (by decide)) (fun _ => ?_)
          refine u_ld (v := iV 0) (pc := 82) (dec_at lsk_133 (k := 31) rfl) rfl ?_
          exact u_rZ (pc := 83) (dec_at lsk_133 (k := 32) rfl) rfl (by decide) h
        · have h := ifF e22 h
          by_cases e23 : u.1 185 6 = 2
          · have h := ifT e23 h
            refine u_ts (pc := 28) (tgt := 84) (o := 56) (dec_at lsk_133 (k := 16) rfl) g20 (by omega) (by rw [e23]; rfl) rfl ?_
            refine u_ld (v := iV 1) (pc := 84) (dec_at lsk_133 (k := 33) rfl) rfl ?_
            refine u_ifT (pc := 85) (tgt := 96) (dec_at lsk_133 (k := 34) rfl) rfl (c0_eq (by decide)) (fun e => absurd e (by decide)) (fun _ => ?_)
            refine u_ld (v := iV 1) (pc := 88) (dec_at lsk_133 (k := 35) rfl) rfl ?_
            refine u_ifT (pc := 89) (tgt := 96) (dec_at lsk_133 (k := 36) rfl) rfl (c0_eq (by decide)) (fun e => absurd e (by decide)) (fun _ => ?_)
            refine u_ld (v := iV 1) (pc := 92) (dec_at lsk_133 (k := 37) rfl) rfl ?_
            refine u_goto (pc := 93) (tgt := 97) (dec_at lsk_133 (k := 38) rfl) rfl ?_
            exact u_rZ (pc := 97) (dec_at lsk_133 (k := 40) rfl) rfl (by decide) h
          · have h := ifF e23 h
            refine u_td (pc := 28) (tgt := 98) (dec_at lsk_133 (k := 16) rfl) g20 (by omega) rfl ?_
            refine u_ld (v := iV 1) (pc := 98) (dec_at lsk_133 (k := 41) rfl) rfl ?_
            refine u_ifF (pc := 99) (tgt := 110) (dec_at lsk_133 (k := 42) rfl) rfl (c0_ne (by decide)) (fun e => absurd e (by decide)) (fun _ => ?_)
            refine u_ld (v := iV 0) (pc := 110) (dec_at lsk_133 (k := 47) rfl) rfl ?_
            exact u_rZ (pc := 111) (dec_at lsk_133 (k := 48) rfl) rfl (by decide) h
/-- method 134 -/
def K_134 (d pc : Nat) (lv : ev_L) (st : List Value) (u : uS) (Q : Int → uS → Prop) : Prop := okU d 8 6 false (some .int) prog_7_method_3_code (qI Q) pc lv st u
theorem e_134 {d : Nat} {Q : Int → uS → Prop} {u : uS} {l1 l2 : Int} (h : K_134 (d + 1) 5 [.ref 185, iV l1, .retAddr 0, iV l2, iV 0, .retAddr 0] [] u Q) : cI (d + 2) 134 [.ref 185, iV l1, iV l2] u Q := by
  refine u_of me_134 (Nat.le_of_ble_eq_true rfl) ?_
  refine u_ld (v := iV l2) (pc := 0) (dec_at lsk_134 (k := 0) rfl) rfl ?_
  refine u_sto (lv' := [.ref 185, iV l1, iV l2, iV l2, .retAddr 0, .retAddr 0]) (pc := 1) (dec_at lsk_134 (k := 1) rfl) rfl ?_
  refine u_ld (v := iV 0) (pc := 2) (dec_at lsk_134 (k := 2) rfl) rfl ?_
  refine u_sto (lv' := [.ref 185, iV l1, iV l2, iV l2, iV 0, .retAddr 0]) (pc := 3) (dec_at lsk_134 (k := 3) rfl) rfl ?_
  exact u_weak (sbK (sbK (sbD (sbK (sbK (sbK sb0)))))) h
theorem k_134_5 {d : Nat} {Q : Int → uS → Prop} {u : uS} {l1 l3 l4 : Int} (h : (rI l4) ∧ (if l4 < 10 then ((rI l1) ∧ ((isO (u.2 185 4) 5) ∧ ((0 ≤ ((l1.tdiv 40) * 10) + l4) ∧ ((((l1.tdiv 40) * 10) + l4 < 400) ∧ ((isO (u.2 185 5) 5) ∧ ((0 ≤ ((l1.tmod 40) * 10) + l4) ∧ ((((l1.tmod 40) * 10) + l4 < 400) ∧ ((0 ≤ ((u.1 ((u.2 185 4) + 1) (((l1.tdiv 40) * 10) + l4)) * 40) + (u.1 ((u.2 185 5) + 1) (((l1.tmod 40) * 10) + l4))) ∧ ((((u.1 ((u.2 185 4) + 1) (((l1.tdiv 40) * 10) + l4)) * 40) + (u.1 ((u.2 185 5) + 1) (((l1.tmod 40) * 10) + l4)) < 1600) ∧ ((rI (u.1 189 (((u.1 ((u.2 185 4) + 1) (((l1.tdiv 40) * 10) + l4)) * 40) + (u.1 ((u.2 185 5) + 1) (((l1.tmod 40) * 10) + l4))))) ∧ (if u.1 189 (((u.1 ((u.2 185 4) + 1) (((l1.tdiv 40) * 10) + l4)) * 40) + (u.1 ((u.2 185 5) + 1) (((l1.tmod 40) * 10) + l4))) = 0 then (∀ u14 : uS, u14 = wr u 189 (((u.1 ((u.2 185 4) + 1) (((l1.tdiv 40) * 10) + l4)) * 40) + (u.1 ((u.2 185 5) + 1) (((l1.tmod 40) * 10) + l4))) 1 → (∀ u16 : uS, u16 = wr u14 187 (((u.1 ((u.2 185 4) + 1) (((l1.tdiv 40) * 10) + l4)) * 40) + (u.1 ((u.2 185 5) + 1) (((l1.tmod 40) * 10) + l4))) l1 → (∀ u18 : uS, u18 = wr u16 188 (((u.1 ((u.2 185 4) + 1) (((l1.tdiv 40) * 10) + l4)) * 40) + (u.1 ((u.2 185 5) + 1) (((l1.tmod 40) * 10) + l4))) l4 → ((0 ≤ l3) ∧ ((l3 < 1600) ∧ (∀ u22 : uS, u22 = wr u18 186 l3 (((u.1 ((u.2 185 4) + 1) (((l1.tdiv 40) * 10) + l4)) * 40) + (u.1 ((u.2 185 5) + 1) (((l1.tmod 40) * 10) + l4))) → (K_134 (d + 1) 5 [.ref 185, iV l1, .retAddr 0, iV (l3 + 1), iV (l4 + 1), .retAddr 0] [] u22 Q))))))) else (K_134 (d + 1) 5 [.ref 185, iV l1, .retAddr 0, iV l3, iV (l4 + 1), .retAddr 0] [] u Q)))))))))))) else (Q l3 u))) : K_134 (d + 1) 5 [.ref 185, iV l1, .retAddr 0, iV l3, iV l4, .retAddr 0] [] u Q := by
  unfold K_134
  refine u_ld (v := iV l4) (pc := 5) (dec_at lsk_134 (k := 4) rfl) rfl ?_
  refine u_c (x := 10) (pc := 7) (dec_at lsk_134 (k := 5) rfl) rfl (by decide) ?_
  have g1 := h.1
  have h := h.2
  refine u_icF (pc := 9) (tgt := 96) (dec_at lsk_134 (k := 6) rfl) rfl (ci_ge g1 (by decide)) (fun e2 => ?_) (fun e2 => ?_)
  · have h := ifT e2 h
    refine u_ld (v := .ref 185) (pc := 12) (dec_at lsk_134 (k := 7) rfl) rfl ?_
    refine u_gR (z := 4) (pc := 13) (dec_at lsk_134 (k := 8) rfl) f_8_28 sx_185 rfl rfl ?_
    refine u_ld (v := iV l1) (pc := 16) (dec_at lsk_134 (k := 9) rfl) rfl ?_
    refine u_c (x := 40) (pc := 17) (dec_at lsk_134 (k := 10) rfl) rfl (by decide) ?_
    have g3 := h.1
    have h := h.2
    refine u_idiv (pc := 19) (dec_at lsk_134 (k := 11) rfl) g3 (by decide) (by decide) ?_
    refine u_ld (v := iV l4) (pc := 20) (dec_at lsk_134 (k := 12) rfl) rfl ?_
    have g4 := h.1
    have h := h.2
    refine u_cvI (As := [iV (l1.tdiv 40), iV l4]) (rb := u.2 185 4) (st2 := []) (pc := 22) (dec_at lsk_134 (k := 13) rfl) m_8_50 (Or.inl rfl) rfl (Nat.le_of_ble_eq_true rfl) g4 me_75 rfl ?_ (fun _ _ h_ => h_)
    refine u_of me_75 (Nat.le_of_ble_eq_true rfl) ?_
    refine u_ld (v := .ref (u.2 185 4)) (pc := 0) (dec_at lsk_75 (k := 0) rfl) rfl ?_
    refine u_gS (o := 1) (p := (u.2 185 4) + 1) (pc := 1) (dec_at lsk_75 (k := 1) rfl) f_5_15 g4 rfl rfl ?_
    refine u_ld (v := iV (l1.tdiv 40)) (pc := 4) (dec_at lsk_75 (k := 2) rfl) rfl ?_
    refine u_c (x := 10) (pc := 5) (dec_at lsk_75 (k := 3) rfl) rfl (by decide) ?_
    refine u_imul (pc := 7) (dec_at lsk_75 (k := 4) rfl) ?_
    refine u_ld (v := iV l4) (pc := 8) (dec_at lsk_75 (k := 5) rfl) rfl ?_
    refine u_iadd (pc := 9) (dec_at lsk_75 (k := 6) rfl) ?_
    have g5 := h.1
    have h := h.2
    have g6 := h.1
    have h := h.2
    refine u_iald (pc := 10) (dec_at lsk_75 (k := 7) rfl) (sa_5_2 g4) g5 g6 ?_
    refine u_rI (pc := 11) (dec_at lsk_75 (k := 8) rfl) rfl ?_
    refine u_c (x := 40) (pc := 25) (dec_at lsk_134 (k := 14) rfl) rfl (by decide) ?_
    refine u_imul (pc := 27) (dec_at lsk_134 (k := 15) rfl) ?_
    refine u_ld (v := .ref 185) (pc := 28) (dec_at lsk_134 (k := 16) rfl) rfl ?_
    refine u_gR (z := 5) (pc := 29) (dec_at lsk_134 (k := 17) rfl) f_8_32 sx_185 rfl rfl ?_
    refine u_ld (v := iV l1) (pc := 32) (dec_at lsk_134 (k := 18) rfl) rfl ?_
    refine u_c (x := 40) (pc := 33) (dec_at lsk_134 (k := 19) rfl) rfl (by decide) ?_
    refine u_irem (pc := 35) (dec_at lsk_134 (k := 20) rfl) g3 (by decide) (by decide) ?_
    refine u_ld (v := iV l4) (pc := 36) (dec_at lsk_134 (k := 21) rfl) rfl ?_
    have g7 := h.1
    have h := h.2
    refine u_cvI (As := [iV (l1.tmod 40), iV l4]) (rb := u.2 185 5) (st2 := [iV ((u.1 ((u.2 185 4) + 1) (((l1.tdiv 40) * 10) + l4)) * 40)]) (pc := 38) (dec_at lsk_134 (k := 22) rfl) m_8_50 (Or.inl rfl) rfl (Nat.le_of_ble_eq_true rfl) g7 me_75 rfl ?_ (fun _ _ h_ => h_)
    refine u_of me_75 (Nat.le_of_ble_eq_true rfl) ?_
    refine u_ld (v := .ref (u.2 185 5)) (pc := 0) (dec_at lsk_75 (k := 0) rfl) rfl ?_
    refine u_gS (o := 1) (p := (u.2 185 5) + 1) (pc := 1) (dec_at lsk_75 (k := 1) rfl) f_5_15 g7 rfl rfl ?_
    refine u_ld (v := iV (l1.tmod 40)) (pc := 4) (dec_at lsk_75 (k := 2) rfl) rfl ?_
    refine u_c (x := 10) (pc := 5) (dec_at lsk_75 (k := 3) rfl) rfl (by decide) ?_
    refine u_imul (pc := 7) (dec_at lsk_75 (k := 4) rfl) ?_
    refine u_ld (v := iV l4) (pc := 8) (dec_at lsk_75 (k := 5) rfl) rfl ?_
    refine u_iadd (pc := 9) (dec_at lsk_75 (k := 6) rfl) ?_
    have g8 := h.1
    have h := h.2
    have g9 := h.1
    have h := h.2
    refine u_iald (pc := 10) (dec_at lsk_75 (k := 7) rfl) (sa_5_2 g7) g8 g9 ?_
    refine u_rI (pc := 11) (dec_at lsk_75 (k := 8) rfl) rfl ?_
    refine u_iadd (pc := 41) (dec_at lsk_134 (k := 23) rfl) ?_
    refine u_sto (lv' := [.ref 185, iV l1, .retAddr 0, iV l3, iV l4, iV (((u.1 ((u.2 185 4) + 1) (((l1.tdiv 40) * 10) + l4)) * 40) + (u.1 ((u.2 185 5) + 1) (((l1.tmod 40) * 10) + l4)))]) (pc := 42) (dec_at lsk_134 (k := 24) rfl) rfl ?_
    refine u_ld (v := .ref 185) (pc := 44) (dec_at lsk_134 (k := 25) rfl) rfl ?_
    refine u_gS (o := 4) (p := 189) (pc := 45) (dec_at lsk_134 (k := 26) rfl) f_8_21 sx_185 rfl rfl ?_
    refine u_ld (v := iV (((u.1 ((u.2 185 4) + 1) (((l1.tdiv 40) * 10) + l4)) * 40) + (u.1 ((u.2 185 5) + 1) (((l1.tmod 40) * 10) + l4)))) (pc := 48) (dec_at lsk_134 (k := 27) rfl) rfl ?_
    have g10 := h.1
    have h := h.2
    have g11 := h.1
    have h := h.2
    refine u_zald (pc := 50) (dec_at lsk_134 (k := 28) rfl) sx_189 g10 g11 ?_
    have g12 := h.1
    have h := h.2
    refine u_ifF (pc := 51) (tgt := 90) (dec_at lsk_134 (k := 29) rfl) rfl (c0_ne g12) (fun e13 => ?_) (fun e13 => ?_)
    · have h := ifT e13 h
      refine u_ld (v := .ref 185) (pc := 54) (dec_at lsk_134 (k := 30) rfl) rfl ?_
      refine u_gS (o := 4) (p := 189) (pc := 55) (dec_at lsk_134 (k := 31) rfl) f_8_21 sx_185 rfl rfl ?_
      refine u_ld (v := iV (((u.1 ((u.2 185 4) + 1) (((l1.tdiv 40) * 10) + l4)) * 40) + (u.1 ((u.2 185 5) + 1) (((l1.tmod 40) * 10) + l4)))) (pc := 58) (dec_at lsk_134 (k := 32) rfl) rfl ?_
      refine u_ld (v := iV 1) (pc := 60) (dec_at lsk_134 (k := 33) rfl) rfl ?_
      refine u_zast (pc := 61) (dec_at lsk_134 (k := 34) rfl) sx_189 g10 g11 (by decide) (fun u14 e15 => ?_)
      have h := h u14 e15
      refine u_ld (v := .ref 185) (pc := 62) (dec_at lsk_134 (k := 35) rfl) rfl ?_
      refine u_gS (o := 2) (p := 187) (pc := 63) (dec_at lsk_134 (k := 36) rfl) f_8_15 sx_185 rfl rfl ?_
      refine u_ld (v := iV (((u.1 ((u.2 185 4) + 1) (((l1.tdiv 40) * 10) + l4)) * 40) + (u.1 ((u.2 185 5) + 1) (((l1.tmod 40) * 10) + l4)))) (pc := 66) (dec_at lsk_134 (k := 37) rfl) rfl ?_
      refine u_ld (v := iV l1) (pc := 68) (dec_at lsk_134 (k := 38) rfl) rfl ?_
      refine u_iast (pc := 69) (dec_at lsk_134 (k := 39) rfl) sx_187 g10 g11 (fun u16 e17 => ?_)
      have h := h u16 e17
      refine u_ld (v := .ref 185) (pc := 70) (dec_at lsk_134 (k := 40) rfl) rfl ?_
      refine u_gS (o := 3) (p := 188) (pc := 71) (dec_at lsk_134 (k := 41) rfl) f_8_18 sx_185 rfl rfl ?_
      refine u_ld (v := iV (((u.1 ((u.2 185 4) + 1) (((l1.tdiv 40) * 10) + l4)) * 40) + (u.1 ((u.2 185 5) + 1) (((l1.tmod 40) * 10) + l4)))) (pc := 74) (dec_at lsk_134 (k := 42) rfl) rfl ?_
      refine u_ld (v := iV l4) (pc := 76) (dec_at lsk_134 (k := 43) rfl) rfl ?_
      refine u_iast (pc := 78) (dec_at lsk_134 (k := 44) rfl) sx_188 g10 g11 (fun u18 e19 => ?_)
      have h := h u18 e19
      refine u_ld (v := .ref 185) (pc := 79) (dec_at lsk_134 (k := 45) rfl) rfl ?_
      refine u_gS (o := 1) (p := 186) (pc := 80) (dec_at lsk_134 (k := 46) rfl) f_8_11 sx_185 rfl rfl ?_
      refine u_ld (v := iV l3) (pc := 83) (dec_at lsk_134 (k := 47) rfl) rfl ?_
      refine u_ld (v := iV (((u.1 ((u.2 185 4) + 1) (((l1.tdiv 40) * 10) + l4)) * 40) + (u.1 ((u.2 185 5) + 1) (((l1.tmod 40) * 10) + l4)))) (pc := 84) (dec_at lsk_134 (k := 48) rfl) rfl ?_
      have g20 := h.1
      have h := h.2
      have g21 := h.1
      have h := h.2
      refine u_iast (pc := 86) (dec_at lsk_134 (k := 49) rfl) sx_186 g20 g21 (fun u22 e23 => ?_)
      have h := h u22 e23
      refine u_inc (lv' := [.ref 185, iV l1, .retAddr 0, iV (l3 + 1), iV l4, iV (((u.1 ((u.2 185 4) + 1) (((l1.tdiv 40) * 10) + l4)) * 40) + (u.1 ((u.2 185 5) + 1) (((l1.tmod 40) * 10) + l4)))]) (pc := 87) (dec_at lsk_134 (k := 50) rfl) rfl (by decide) rfl ?_
      refine u_inc (lv' := [.ref 185, iV l1, .retAddr 0, iV (l3 + 1), iV (l4 + 1), iV (((u.1 ((u.2 185 4) + 1) (((l1.tdiv 40) * 10) + l4)) * 40) + (u.1 ((u.2 185 5) + 1) (((l1.tmod 40) * 10) + l4)))]) (pc := 90) (dec_at lsk_134 (k := 51) rfl) rfl (by decide) rfl ?_
      refine u_goto (pc := 93) (tgt := 5) (dec_at lsk_134 (k := 52) rfl) rfl ?_
      exact u_weak (sbK (sbK (sbK (sbK (sbK (sbD sb0)))))) h
    · have h := ifF e13 h
      refine u_inc (lv' := [.ref 185, iV l1, .retAddr 0, iV l3, iV (l4 + 1), iV (((u.1 ((u.2 185 4) + 1) (((l1.tdiv 40) * 10) + l4)) * 40) + (u.1 ((u.2 185 5) + 1) (((l1.tmod 40) * 10) + l4)))]) (pc := 90) (dec_at lsk_134 (k := 51) rfl) rfl (by decide) rfl ?_
      refine u_goto (pc := 93) (tgt := 5) (dec_at lsk_134 (k := 52) rfl) rfl ?_
      exact u_weak (sbK (sbK (sbK (sbK (sbK (sbD sb0)))))) h
  · have h := ifF e2 h
    refine u_ld (v := iV l3) (pc := 96) (dec_at lsk_134 (k := 53) rfl) rfl ?_
    exact u_rI (pc := 97) (dec_at lsk_134 (k := 54) rfl) rfl h
/-- method 135 -/
def K_135 (d pc : Nat) (lv : ev_L) (st : List Value) (u : uS) (Q : Int → uS → Prop) : Prop := okU d 8 4 false (some .int) prog_7_method_5_code (qI Q) pc lv st u
theorem e_135 {d : Nat} {Q : Int → uS → Prop} {u : uS} (h : K_135 d 9 [.ref 185, iV 0, iV (u.1 185 7), iV 0] [] u Q) : cI (d + 1) 135 [.ref 185] u Q := by
  refine u_of me_135 (Nat.le_of_ble_eq_true rfl) ?_
  refine u_ld (v := iV 0) (pc := 0) (dec_at lsk_135 (k := 0) rfl) rfl ?_
  refine u_sto (lv' := [.ref 185, iV 0, .retAddr 0, .retAddr 0]) (pc := 1) (dec_at lsk_135 (k := 1) rfl) rfl ?_
  refine u_ld (v := .ref 185) (pc := 2) (dec_at lsk_135 (k := 2) rfl) rfl ?_
  refine u_gI (z := 7) (pc := 3) (dec_at lsk_135 (k := 3) rfl) f_8_43 sx_185 rfl rfl ?_
  refine u_sto (lv' := [.ref 185, iV 0, iV (u.1 185 7), .retAddr 0]) (pc := 6) (dec_at lsk_135 (k := 4) rfl) rfl ?_
  refine u_ld (v := iV 0) (pc := 7) (dec_at lsk_135 (k := 5) rfl) rfl ?_
  refine u_sto (lv' := [.ref 185, iV 0, iV (u.1 185 7), iV 0]) (pc := 8) (dec_at lsk_135 (k := 6) rfl) rfl ?_
  exact h
theorem k_135_9 {d : Nat} {Q : Int → uS → Prop} {u : uS} {l1 l2 l3 : Int} (h : (rI l3) ∧ (if l3 < 1600 then ((0 ≤ l2) ∧ ((l2 < 1600) ∧ ((rI (u.1 187 l2)) ∧ (if u.1 187 l2 < 0 then (Q l1 u) else (K_135 d 9 [.ref 185, iV (l1 + 1), iV (u.1 187 l2), iV (l3 + 1)] [] u Q))))) else (Q l1 u))) : K_135 d 9 [.ref 185, iV l1, iV l2, iV l3] [] u Q := by
  unfold K_135
  refine u_ld (v := iV l3) (pc := 9) (dec_at lsk_135 (k := 7) rfl) rfl ?_
  refine u_c (x := 1600) (pc := 10) (dec_at lsk_135 (k := 8) rfl) rfl (by decide) ?_
  have g1 := h.1
  have h := h.2
  refine u_icF (pc := 13) (tgt := 41) (dec_at lsk_135 (k := 9) rfl) rfl (ci_ge g1 (by decide)) (fun e2 => ?_) (fun e2 => ?_)
  · have h := ifT e2 h
    refine u_ld (v := .ref 185) (pc := 16) (dec_at lsk_135 (k := 10) rfl) rfl ?_
    refine u_gS (o := 2) (p := 187) (pc := 17) (dec_at lsk_135 (k := 11) rfl) f_8_15 sx_185 rfl rfl ?_
    refine u_ld (v := iV l2) (pc := 20) (dec_at lsk_135 (k := 12) rfl) rfl ?_
    have g3 := h.1
    have h := h.2
    have g4 := h.1
    have h := h.2
    refine u_iald (pc := 21) (dec_at lsk_135 (k := 13) rfl) sx_187 g3 g4 ?_
    have g5 := h.1
    have h := h.2
    refine u_ifT (pc := 22) (tgt := 41) (dec_at lsk_135 (k := 14) rfl) rfl (c0_lt g5) (fun e6 => ?_) (fun e6 => ?_)
    · have h := ifT e6 h
      refine u_ld (v := iV l1) (pc := 41) (dec_at lsk_135 (k := 23) rfl) rfl ?_
      exact u_rI (pc := 42) (dec_at lsk_135 (k := 24) rfl) rfl h
    · have h := ifF e6 h
      refine u_ld (v := .ref 185) (pc := 25) (dec_at lsk_135 (k := 15) rfl) rfl ?_
      refine u_gS (o := 2) (p := 187) (pc := 26) (dec_at lsk_135 (k := 16) rfl) f_8_15 sx_185 rfl rfl ?_
      refine u_ld (v := iV l2) (pc := 29) (dec_at lsk_135 (k := 17) rfl) rfl ?_
      refine u_iald (pc := 30) (dec_at lsk_135 (k := 18) rfl) sx_187 g3 g4 ?_
      refine u_sto (lv' := [.ref 185, iV l1, iV (u.1 187 l2), iV l3]) (pc := 31) (dec_at lsk_135 (k := 19) rfl) rfl ?_
      refine u_inc (lv' := [.ref 185, iV (l1 + 1), iV (u.1 187 l2), iV l3]) (pc := 32) (dec_at lsk_135 (k := 20) rfl) rfl (by decide) rfl ?_
      refine u_inc (lv' := [.ref 185, iV (l1 + 1), iV (u.1 187 l2), iV (l3 + 1)]) (pc := 35) (dec_at lsk_135 (k := 21) rfl) rfl (by decide) rfl ?_
      refine u_goto (pc := 38) (tgt := 9) (dec_at lsk_135 (k := 22) rfl) rfl ?_
      exact h
  · have h := ifF e2 h
    refine u_ld (v := iV l1) (pc := 41) (dec_at lsk_135 (k := 23) rfl) rfl ?_
    exact u_rI (pc := 42) (dec_at lsk_135 (k := 24) rfl) rfl h
/-- method 136 -/
def K_136 (d pc : Nat) (lv : ev_L) (st : List Value) (u : uS) (Q : uS → Prop) : Prop := okU d 8 5 false none prog_7_method_6_code (qV Q) pc lv st u
theorem e_136 {d : Nat} {Q : uS → Prop} {u : uS} {l1 : Nat} {l2 : Int} {nl1 : Nat} (hAl1 : isA l1 0 nl1) (h : K_136 d 10 [.ref 185, .ref l1, .retAddr 0, iV (u.1 185 7), iV (l2 - 1)] [] u Q) : cV (d + 1) 136 [.ref 185, .ref l1, iV l2] u Q := by
  refine u_of me_136 (Nat.le_of_ble_eq_true rfl) ?_
  refine u_ld (v := .ref 185) (pc := 0) (dec_at lsk_136 (k := 0) rfl) rfl ?_
  refine u_gI (z := 7) (pc := 1) (dec_at lsk_136 (k := 1) rfl) f_8_43 sx_185 rfl rfl ?_
  refine u_sto (lv' := [.ref 185, .ref l1, iV l2, iV (u.1 185 7), .retAddr 0]) (pc := 4) (dec_at lsk_136 (k := 2) rfl) rfl ?_
  refine u_ld (v := iV l2) (pc := 5) (dec_at lsk_136 (k := 3) rfl) rfl ?_
  refine u_ld (v := iV 1) (pc := 6) (dec_at lsk_136 (k := 4) rfl) rfl ?_
  refine u_isub (pc := 7) (dec_at lsk_136 (k := 5) rfl) ?_
  refine u_sto (lv' := [.ref 185, .ref l1, iV l2, iV (u.1 185 7), iV (l2 - 1)]) (pc := 8) (dec_at lsk_136 (k := 6) rfl) rfl ?_
  exact u_weak (sbK (sbK (sbD (sbK (sbK sb0))))) h
theorem k_136_10 {d : Nat} {Q : uS → Prop} {u : uS} {l1 : Nat} {l3 l4 : Int} {nl1 : Nat} (hAl1 : isA l1 0 nl1) (h : (rI l4) ∧ (if l4 < 0 then (Q u) else ((0 ≤ l3) ∧ ((l3 < 1600) ∧ ((rI (u.1 187 l3)) ∧ (if u.1 187 l3 < 0 then (Q u) else ((l4 < (nl1 : Int)) ∧ (∀ u8 : uS, u8 = wr u l1 l4 (u.1 188 l3) → (K_136 d 10 [.ref 185, .ref l1, .retAddr 0, iV (u8.1 187 l3), iV (l4 + (-1))] [] u8 Q))))))))) : K_136 d 10 [.ref 185, .ref l1, .retAddr 0, iV l3, iV l4] [] u Q := by
  unfold K_136
  refine u_ld (v := iV l4) (pc := 10) (dec_at lsk_136 (k := 7) rfl) rfl ?_
  have g1 := h.1
  have h := h.2
  refine u_ifT (pc := 12) (tgt := 47) (dec_at lsk_136 (k := 8) rfl) rfl (c0_lt g1) (fun e2 => ?_) (fun e2 => ?_)
  · have h := ifT e2 h
    exact u_rV (pc := 47) (dec_at lsk_136 (k := 28) rfl) rfl h
  · have h := ifF e2 h
    refine u_ld (v := .ref 185) (pc := 15) (dec_at lsk_136 (k := 9) rfl) rfl ?_
    refine u_gS (o := 2) (p := 187) (pc := 16) (dec_at lsk_136 (k := 10) rfl) f_8_15 sx_185 rfl rfl ?_
    refine u_ld (v := iV l3) (pc := 19) (dec_at lsk_136 (k := 11) rfl) rfl ?_
    have g3 := h.1
    have h := h.2
    have g4 := h.1
    have h := h.2
    refine u_iald (pc := 20) (dec_at lsk_136 (k := 12) rfl) sx_187 g3 g4 ?_
    have g5 := h.1
    have h := h.2
    refine u_ifT (pc := 21) (tgt := 47) (dec_at lsk_136 (k := 13) rfl) rfl (c0_lt g5) (fun e6 => ?_) (fun e6 => ?_)
    · have h := ifT e6 h
      exact u_rV (pc := 47) (dec_at lsk_136 (k := 28) rfl) rfl h
    · have h := ifF e6 h
      refine u_ld (v := .ref l1) (pc := 24) (dec_at lsk_136 (k := 14) rfl) rfl ?_
      refine u_ld (v := iV l4) (pc := 25) (dec_at lsk_136 (k := 15) rfl) rfl ?_
      refine u_ld (v := .ref 185) (pc := 27) (dec_at lsk_136 (k := 16) rfl) rfl ?_
      refine u_gS (o := 3) (p := 188) (pc := 28) (dec_at lsk_136 (k := 17) rfl) f_8_18 sx_185 rfl rfl ?_
      refine u_ld (v := iV l3) (pc := 31) (dec_at lsk_136 (k := 18) rfl) rfl ?_
      refine u_iald (pc := 32) (dec_at lsk_136 (k := 19) rfl) sx_188 g3 g4 ?_
      have g7 := h.1
      have h := h.2
      refine u_iast (pc := 33) (dec_at lsk_136 (k := 20) rfl) hAl1 (Int.not_lt.mp e2) g7 (fun u8 e9 => ?_)
      have h := h u8 e9
      refine u_ld (v := .ref 185) (pc := 34) (dec_at lsk_136 (k := 21) rfl) rfl ?_
      refine u_gS (o := 2) (p := 187) (pc := 35) (dec_at lsk_136 (k := 22) rfl) f_8_15 sx_185 rfl rfl ?_
      refine u_ld (v := iV l3) (pc := 38) (dec_at lsk_136 (k := 23) rfl) rfl ?_
      refine u_iald (pc := 39) (dec_at lsk_136 (k := 24) rfl) sx_187 g3 g4 ?_
      refine u_sto (lv' := [.ref 185, .ref l1, .retAddr 0, iV (u8.1 187 l3), iV l4]) (pc := 40) (dec_at lsk_136 (k := 25) rfl) rfl ?_
      refine u_inc (lv' := [.ref 185, .ref l1, .retAddr 0, iV (u8.1 187 l3), iV (l4 + (-1))]) (pc := 41) (dec_at lsk_136 (k := 26) rfl) rfl (by decide) rfl ?_
      refine u_goto (pc := 44) (tgt := 10) (dec_at lsk_136 (k := 27) rfl) rfl ?_
      exact h
/-- method 139 -/
def K_139 (d pc : Nat) (lv : ev_L) (st : List Value) (u : uS) (Q : uS → Prop) : Prop := okU d 9 6 false none prog_8_method_2_code (qV Q) pc lv st u
theorem e_139 {d : Nat} {Q : uS → Prop} {u : uS} {a l1 l2 : Nat} (hOa : isO a 9) (hOl1 : isO l1 2) (hOl2 : isO l2 5) (h : (rI (u.1 a 0)) ∧ (if u.1 a 0 = 0 then (∀ u3 : uS, u3 = wq u a 2 l1 → (∀ u5 : uS, u5 = wq u3 a 3 l2 → (∀ u7 : uS, u7 = fil u5 (a + 1) 0 400 0 → (K_139 (d + 1) 31 [.ref a, .retAddr 0, .retAddr 0, iV 1, iV 0, .retAddr 0] [] u7 Q)))) else (Q u))) : cV (d + 2) 139 [.ref a, .ref l1, .ref l2] u Q := by
  refine u_of me_139 (Nat.le_of_ble_eq_true rfl) ?_
  refine u_ld (v := .ref a) (pc := 0) (dec_at lsk_139 (k := 0) rfl) rfl ?_
  refine u_gZ (z := 0) (pc := 1) (dec_at lsk_139 (k := 1) rfl) f_9_49 hOa rfl rfl ?_
  have g1 := h.1
  have h := h.2
  refine u_ifT (pc := 4) (tgt := 8) (dec_at lsk_139 (k := 2) rfl) rfl (c0_eq g1) (fun e2 => ?_) (fun e2 => ?_)
  · have h := ifT e2 h
    refine u_ld (v := .ref a) (pc := 8) (dec_at lsk_139 (k := 4) rfl) rfl ?_
    refine u_ld (v := .ref l1) (pc := 9) (dec_at lsk_139 (k := 5) rfl) rfl ?_
    refine u_pR (z := 2) (pc := 10) (dec_at lsk_139 (k := 6) rfl) f_9_18 hOa rfl rfl rfl rfl rfl (fun u3 e4 => ?_)
    have h := h u3 e4
    refine u_ld (v := .ref a) (pc := 13) (dec_at lsk_139 (k := 7) rfl) rfl ?_
    refine u_ld (v := .ref l2) (pc := 14) (dec_at lsk_139 (k := 8) rfl) rfl ?_
    refine u_pR (z := 3) (pc := 15) (dec_at lsk_139 (k := 9) rfl) f_9_25 hOa rfl rfl rfl rfl rfl (fun u5 e6 => ?_)
    have h := h u5 e6
    refine u_ld (v := .ref a) (pc := 18) (dec_at lsk_139 (k := 10) rfl) rfl ?_
    refine u_gS (o := 1) (p := a + 1) (pc := 19) (dec_at lsk_139 (k := 11) rfl) f_9_11 hOa rfl rfl ?_
    refine u_cl (x := 0) (pc := 22) (dec_at lsk_139 (k := 12) rfl) rfl (by decide) ?_
    refine u_csV (As := [.ref (a + 1), lV 0]) (st2 := []) (pc := 23) (dec_at lsk_139 (k := 13) rfl) m_9_53 (Or.inl rfl) rfl (Nat.le_of_ble_eq_true rfl) (q_49 (sa_9_1 hOa)) (fun u7 e8 => ?_)
    have h := h u7 e8
    refine u_ld (v := iV 1) (pc := 26) (dec_at lsk_139 (k := 14) rfl) rfl ?_
    refine u_sto (lv' := [.ref a, .ref l1, .ref l2, iV 1, .retAddr 0, .retAddr 0]) (pc := 27) (dec_at lsk_139 (k := 15) rfl) rfl ?_
    refine u_ld (v := iV 0) (pc := 28) (dec_at lsk_139 (k := 16) rfl) rfl ?_
    refine u_sto (lv' := [.ref a, .ref l1, .ref l2, iV 1, iV 0, .retAddr 0]) (pc := 29) (dec_at lsk_139 (k := 17) rfl) rfl ?_
    exact u_weak (sbK (sbD (sbD (sbK (sbK (sbK sb0)))))) h
  · have h := ifF e2 h
    exact u_rV (pc := 7) (dec_at lsk_139 (k := 3) rfl) rfl h
theorem k_139_31 {d : Nat} {Q : uS → Prop} {u : uS} {a : Nat} {l3 l4 : Int} (hOa : isO a 9) (h : (rI l3) ∧ (if l3 = 0 then (∀ u3 : uS, u3 = wr u a 0 1 → (Q u3)) else ((rI l4) ∧ (if 16000 < l4 then (∀ u7 : uS, u7 = wr u a 0 1 → (Q u7)) else (K_139 (d + 1) 48 [.ref a, .retAddr 0, .retAddr 0, iV 0, iV l4, iV 0] [] u Q))))) : K_139 (d + 1) 31 [.ref a, .retAddr 0, .retAddr 0, iV l3, iV l4, .retAddr 0] [] u Q := by
  unfold K_139
  refine u_ld (v := iV l3) (pc := 31) (dec_at lsk_139 (k := 18) rfl) rfl ?_
  have g1 := h.1
  have h := h.2
  refine u_ifT (pc := 32) (tgt := 81) (dec_at lsk_139 (k := 19) rfl) rfl (c0_eq g1) (fun e2 => ?_) (fun e2 => ?_)
  · have h := ifT e2 h
    refine u_ld (v := .ref a) (pc := 81) (dec_at lsk_139 (k := 42) rfl) rfl ?_
    refine u_ld (v := iV 1) (pc := 82) (dec_at lsk_139 (k := 43) rfl) rfl ?_
    refine u_pZ (z := 0) (pc := 83) (dec_at lsk_139 (k := 44) rfl) f_9_49 hOa rfl rfl rfl rfl (by decide) (fun u3 e4 => ?_)
    have h := h u3 e4
    exact u_rV (pc := 86) (dec_at lsk_139 (k := 45) rfl) rfl h
  · have h := ifF e2 h
    refine u_ld (v := iV l4) (pc := 35) (dec_at lsk_139 (k := 20) rfl) rfl ?_
    refine u_c (x := 16000) (pc := 37) (dec_at lsk_139 (k := 21) rfl) rfl (by decide) ?_
    have g5 := h.1
    have h := h.2
    refine u_icT (pc := 40) (tgt := 81) (dec_at lsk_139 (k := 22) rfl) rfl (ci_gt g5 (by decide)) (fun e6 => ?_) (fun e6 => ?_)
    · have h := ifT e6 h
      refine u_ld (v := .ref a) (pc := 81) (dec_at lsk_139 (k := 42) rfl) rfl ?_
      refine u_ld (v := iV 1) (pc := 82) (dec_at lsk_139 (k := 43) rfl) rfl ?_
      refine u_pZ (z := 0) (pc := 83) (dec_at lsk_139 (k := 44) rfl) f_9_49 hOa rfl rfl rfl rfl (by decide) (fun u7 e8 => ?_)
      have h := h u7 e8
      exact u_rV (pc := 86) (dec_at lsk_139 (k := 45) rfl) rfl h
    · have h := ifF e6 h
      refine u_ld (v := iV 0) (pc := 43) (dec_at lsk_139 (k := 23) rfl) rfl ?_
      refine u_sto (lv' := [.ref a, .retAddr 0, .retAddr 0, iV 0, iV l4, .retAddr 0]) (pc := 44) (dec_at lsk_139 (k := 24) rfl) rfl ?_
      refine u_ld (v := iV 0) (pc := 45) (dec_at lsk_139 (k := 25) rfl) rfl ?_
      refine u_sto (lv' := [.ref a, .retAddr 0, .retAddr 0, iV 0, iV l4, iV 0]) (pc := 46) (dec_at lsk_139 (k := 26) rfl) rfl ?_
      exact h
theorem k_139_48 {d : Nat} {Q : uS → Prop} {u : uS} {a : Nat} {l3 l4 l5 : Int} (hOa : isO a 9) (h : (isO (u.2 a 2) 2) ∧ ((rI l5) ∧ ((rI (u.1 (u.2 a 2) 1)) ∧ (if l5 < u.1 (u.2 a 2) 1 then (cI (d + 1) 140 [.ref a, iV l5] u (fun r6 u5 => K_139 (d + 1) 48 [.ref a, .retAddr 0, .retAddr 0, iV (ior l3 r6), iV l4, iV (l5 + 1)] [] u5 Q)) else (K_139 (d + 1) 31 [.ref a, .retAddr 0, .retAddr 0, iV l3, iV (l4 + 1), .retAddr 0] [] u Q))))) : K_139 (d + 1) 48 [.ref a, .retAddr 0, .retAddr 0, iV l3, iV l4, iV l5] [] u Q := by
  unfold K_139
  refine u_ld (v := iV l5) (pc := 48) (dec_at lsk_139 (k := 27) rfl) rfl ?_
  refine u_ld (v := .ref a) (pc := 50) (dec_at lsk_139 (k := 28) rfl) rfl ?_
  refine u_gR (z := 2) (pc := 51) (dec_at lsk_139 (k := 29) rfl) f_9_18 hOa rfl rfl ?_
  have g1 := h.1
  have h := h.2
  refine u_gI (z := 1) (pc := 54) (dec_at lsk_139 (k := 30) rfl) f_9_59 g1 rfl rfl ?_
  have g2 := h.1
  have h := h.2
  have g3 := h.1
  have h := h.2
  refine u_icF (pc := 57) (tgt := 75) (dec_at lsk_139 (k := 31) rfl) rfl (ci_ge g2 g3) (fun e4 => ?_) (fun e4 => ?_)
  · have h := ifT e4 h
    refine u_ld (v := iV l3) (pc := 60) (dec_at lsk_139 (k := 32) rfl) rfl ?_
    refine u_ld (v := .ref a) (pc := 61) (dec_at lsk_139 (k := 33) rfl) rfl ?_
    refine u_ld (v := iV l5) (pc := 62) (dec_at lsk_139 (k := 34) rfl) rfl ?_
    refine u_cvI (As := [iV l5]) (rb := a) (st2 := [iV l3]) (pc := 64) (dec_at lsk_139 (k := 35) rfl) m_9_62 (Or.inl rfl) rfl (Nat.le_of_ble_eq_true rfl) hOa me_140 rfl h (fun r6 u5 h => ?_)
    refine u_ior (pc := 67) (dec_at lsk_139 (k := 36) rfl) ?_
    refine u_sto (lv' := [.ref a, .retAddr 0, .retAddr 0, iV (ior l3 r6), iV l4, iV l5]) (pc := 68) (dec_at lsk_139 (k := 37) rfl) rfl ?_
    refine u_inc (lv' := [.ref a, .retAddr 0, .retAddr 0, iV (ior l3 r6), iV l4, iV (l5 + 1)]) (pc := 69) (dec_at lsk_139 (k := 38) rfl) rfl (by decide) rfl ?_
    refine u_goto (pc := 72) (tgt := 48) (dec_at lsk_139 (k := 39) rfl) rfl ?_
    exact h
  · have h := ifF e4 h
    refine u_inc (lv' := [.ref a, .retAddr 0, .retAddr 0, iV l3, iV (l4 + 1), iV l5]) (pc := 75) (dec_at lsk_139 (k := 40) rfl) rfl (by decide) rfl ?_
    refine u_goto (pc := 78) (tgt := 31) (dec_at lsk_139 (k := 41) rfl) rfl ?_
    exact u_weak (sbK (sbK (sbK (sbK (sbK (sbD sb0)))))) h
/-- method 140 -/
def K_140 (d pc : Nat) (lv : ev_L) (st : List Value) (u : uS) (Q : Int → uS → Prop) : Prop := okU d 9 7 false (some .boolean) prog_8_method_3_code (qI Q) pc lv st u
theorem e_140 {d : Nat} {Q : Int → uS → Prop} {u : uS} {a : Nat} {l1 : Int} (hOa : isO a 9) (h : K_140 (d + 1) 4 [.ref a, iV l1, iV 0, iV 0, .retAddr 0, .retAddr 0, .retAddr 0] [] u Q) : cI (d + 2) 140 [.ref a, iV l1] u Q := by
  refine u_of me_140 (Nat.le_of_ble_eq_true rfl) ?_
  refine u_ld (v := iV 0) (pc := 0) (dec_at lsk_140 (k := 0) rfl) rfl ?_
  refine u_sto (lv' := [.ref a, iV l1, iV 0, .retAddr 0, .retAddr 0, .retAddr 0, .retAddr 0]) (pc := 1) (dec_at lsk_140 (k := 1) rfl) rfl ?_
  refine u_ld (v := iV 0) (pc := 2) (dec_at lsk_140 (k := 2) rfl) rfl ?_
  refine u_sto (lv' := [.ref a, iV l1, iV 0, iV 0, .retAddr 0, .retAddr 0, .retAddr 0]) (pc := 3) (dec_at lsk_140 (k := 3) rfl) rfl ?_
  exact h
theorem k_140_4 {d : Nat} {Q : Int → uS → Prop} {u : uS} {a : Nat} {l1 l2 l3 : Int} (hOa : isO a 9) (h : (isO (u.2 a 3) 5) ∧ ((rI l3) ∧ ((rI (u.1 (u.2 a 3) 0)) ∧ (if l3 < u.1 (u.2 a 3) 0 then ((isO (u.2 a 2) 2) ∧ ((0 ≤ l1) ∧ ((l1 < 30) ∧ (cV (d + 1) 142 [.ref (u.2 a 2), .ref (u.2 a 3), .ref (a + 1), iV l1, iV l3, .ref (a + 13)] u (fun u8 => (0 ≤ ((u.1 ((u.2 a 2) + 2) l1) * 40) + l3) ∧ ((((u.1 ((u.2 a 2) + 2) l1) * 40) + l3 < 400) ∧ ((isO (u8.2 a 2) 2) ∧ ((0 ≤ u8.1 ((u8.2 a 2) + 3) l1) ∧ ((u8.1 ((u8.2 a 2) + 3) l1 < 7) ∧ ((rL (u8.1 (a + 1) (((u.1 ((u.2 a 2) + 2) l1) * 40) + l3))) ∧ (if lor (u8.1 (a + 1) (((u.1 ((u.2 a 2) + 2) l1) * 40) + l3)) (u8.1 (a + 13) (u8.1 ((u8.2 a 2) + 3) l1)) = u8.1 (a + 1) (((u.1 ((u.2 a 2) + 2) l1) * 40) + l3) then (∀ u16 : uS, u16 = wr u8 (a + 1) (((u.1 ((u.2 a 2) + 2) l1) * 40) + l3) (lor (u8.1 (a + 1) (((u.1 ((u.2 a 2) + 2) l1) * 40) + l3)) (u8.1 (a + 13) (u8.1 ((u8.2 a 2) + 3) l1))) → (K_140 (d + 1) 4 [.ref a, iV l1, iV (ior l2 0), iV (l3 + 1), .retAddr 0, .retAddr 0, .retAddr 0] [] u16 Q)) else (∀ u18 : uS, u18 = wr u8 (a + 1) (((u.1 ((u.2 a 2) + 2) l1) * 40) + l3) (lor (u8.1 (a + 1) (((u.1 ((u.2 a 2) + 2) l1) * 40) + l3)) (u8.1 (a + 13) (u8.1 ((u8.2 a 2) + 3) l1))) → (K_140 (d + 1) 4 [.ref a, iV l1, iV (ior l2 1), iV (l3 + 1), .retAddr 0, .retAddr 0, .retAddr 0] [] u18 Q))))))))))))) else ((l2 = 0 ∨ l2 = 1) ∧ (Q l2 u)))))) : K_140 (d + 1) 4 [.ref a, iV l1, iV l2, iV l3, .retAddr 0, .retAddr 0, .retAddr 0] [] u Q := by
  unfold K_140
  refine u_ld (v := iV l3) (pc := 4) (dec_at lsk_140 (k := 4) rfl) rfl ?_
  refine u_ld (v := .ref a) (pc := 5) (dec_at lsk_140 (k := 5) rfl) rfl ?_
  refine u_gR (z := 3) (pc := 6) (dec_at lsk_140 (k := 6) rfl) f_9_25 hOa rfl rfl ?_
  have g1 := h.1
  have h := h.2
  refine u_gI (z := 0) (pc := 9) (dec_at lsk_140 (k := 7) rfl) f_9_66 g1 rfl rfl ?_
  have g2 := h.1
  have h := h.2
  have g3 := h.1
  have h := h.2
  refine u_icF (pc := 12) (tgt := 111) (dec_at lsk_140 (k := 8) rfl) rfl (ci_ge g2 g3) (fun e4 => ?_) (fun e4 => ?_)
  · have h := ifT e4 h
    refine u_ld (v := .ref a) (pc := 15) (dec_at lsk_140 (k := 9) rfl) rfl ?_
    refine u_gR (z := 2) (pc := 16) (dec_at lsk_140 (k := 10) rfl) f_9_18 hOa rfl rfl ?_
    have g5 := h.1
    have h := h.2
    refine u_gS (o := 2) (p := (u.2 a 2) + 2) (pc := 19) (dec_at lsk_140 (k := 11) rfl) f_9_69 g5 rfl rfl ?_
    refine u_ld (v := iV l1) (pc := 22) (dec_at lsk_140 (k := 12) rfl) rfl ?_
    have g6 := h.1
    have h := h.2
    have g7 := h.1
    have h := h.2
    refine u_iald (pc := 23) (dec_at lsk_140 (k := 13) rfl) (sa_2_3 g5) g6 g7 ?_
    refine u_ld (v := iV l3) (pc := 24) (dec_at lsk_140 (k := 14) rfl) rfl ?_
    refine u_csI (As := [iV (u.1 ((u.2 a 2) + 2) l1), iV l3]) (st2 := []) (pc := 25) (dec_at lsk_140 (k := 15) rfl) m_9_72 (Or.inr rfl) rfl (Nat.le_of_ble_eq_true rfl) ?_ (fun _ _ h_ => h_)
    refine u_of me_141 (Nat.le_of_ble_eq_true rfl) ?_
    refine u_ld (v := iV (u.1 ((u.2 a 2) + 2) l1)) (pc := 0) (dec_at lsk_141 (k := 0) rfl) rfl ?_
    refine u_c (x := 40) (pc := 1) (dec_at lsk_141 (k := 1) rfl) rfl (by decide) ?_
    refine u_imul (pc := 3) (dec_at lsk_141 (k := 2) rfl) ?_
    refine u_ld (v := iV l3) (pc := 4) (dec_at lsk_141 (k := 3) rfl) rfl ?_
    refine u_iadd (pc := 5) (dec_at lsk_141 (k := 4) rfl) ?_
    refine u_rI (pc := 6) (dec_at lsk_141 (k := 5) rfl) rfl ?_
    refine u_sto (lv' := [.ref a, iV l1, iV l2, iV l3, iV (((u.1 ((u.2 a 2) + 2) l1) * 40) + l3), .retAddr 0, .retAddr 0]) (pc := 28) (dec_at lsk_140 (k := 16) rfl) rfl ?_
    refine u_ld (v := .ref a) (pc := 30) (dec_at lsk_140 (k := 17) rfl) rfl ?_
    refine u_gR (z := 2) (pc := 31) (dec_at lsk_140 (k := 18) rfl) f_9_18 hOa rfl rfl ?_
    refine u_ld (v := .ref a) (pc := 34) (dec_at lsk_140 (k := 19) rfl) rfl ?_
    refine u_gR (z := 3) (pc := 35) (dec_at lsk_140 (k := 20) rfl) f_9_25 hOa rfl rfl ?_
    refine u_ld (v := .ref a) (pc := 38) (dec_at lsk_140 (k := 21) rfl) rfl ?_
    refine u_gS (o := 1) (p := a + 1) (pc := 39) (dec_at lsk_140 (k := 22) rfl) f_9_11 hOa rfl rfl ?_
    refine u_ld (v := iV l1) (pc := 42) (dec_at lsk_140 (k := 23) rfl) rfl ?_
    refine u_ld (v := iV l3) (pc := 43) (dec_at lsk_140 (k := 24) rfl) rfl ?_
    refine u_ld (v := .ref a) (pc := 44) (dec_at lsk_140 (k := 25) rfl) rfl ?_
    refine u_gS (o := 13) (p := a + 13) (pc := 45) (dec_at lsk_140 (k := 26) rfl) f_9_29 hOa rfl rfl ?_
    refine u_csV (As := [.ref (u.2 a 2), .ref (u.2 a 3), .ref (a + 1), iV l1, iV l3, .ref (a + 13)]) (st2 := []) (pc := 48) (dec_at lsk_140 (k := 27) rfl) m_9_76 (Or.inr rfl) rfl (Nat.le_of_ble_eq_true rfl) h (fun u8 h => ?_)
    refine u_ld (v := .ref a) (pc := 51) (dec_at lsk_140 (k := 28) rfl) rfl ?_
    refine u_gS (o := 1) (p := a + 1) (pc := 52) (dec_at lsk_140 (k := 29) rfl) f_9_11 hOa rfl rfl ?_
    refine u_ld (v := iV (((u.1 ((u.2 a 2) + 2) l1) * 40) + l3)) (pc := 55) (dec_at lsk_140 (k := 30) rfl) rfl ?_
    have g9 := h.1
    have h := h.2
    have g10 := h.1
    have h := h.2
    refine u_lald (pc := 57) (dec_at lsk_140 (k := 31) rfl) (sa_9_1 hOa) g9 g10 ?_
    refine u_ld (v := .ref a) (pc := 58) (dec_at lsk_140 (k := 32) rfl) rfl ?_
    refine u_gS (o := 13) (p := a + 13) (pc := 59) (dec_at lsk_140 (k := 33) rfl) f_9_29 hOa rfl rfl ?_
    refine u_ld (v := .ref a) (pc := 62) (dec_at lsk_140 (k := 34) rfl) rfl ?_
    refine u_gR (z := 2) (pc := 63) (dec_at lsk_140 (k := 35) rfl) f_9_18 hOa rfl rfl ?_
    have g11 := h.1
    have h := h.2
    refine u_gS (o := 3) (p := (u8.2 a 2) + 3) (pc := 66) (dec_at lsk_140 (k := 36) rfl) f_9_80 g11 rfl rfl ?_
    refine u_ld (v := iV l1) (pc := 69) (dec_at lsk_140 (k := 37) rfl) rfl ?_
    refine u_iald (pc := 70) (dec_at lsk_140 (k := 38) rfl) (sa_2_4 g11) g6 g7 ?_
    have g12 := h.1
    have h := h.2
    have g13 := h.1
    have h := h.2
    refine u_lald (pc := 71) (dec_at lsk_140 (k := 39) rfl) (sa_9_4 hOa) g12 g13 ?_
    refine u_lor (pc := 72) (dec_at lsk_140 (k := 40) rfl) ?_
    refine u_sto (lv' := [.ref a, iV l1, iV l2, iV l3, iV (((u.1 ((u.2 a 2) + 2) l1) * 40) + l3), lV (lor (u8.1 (a + 1) (((u.1 ((u.2 a 2) + 2) l1) * 40) + l3)) (u8.1 (a + 13) (u8.1 ((u8.2 a 2) + 3) l1))), .retAddr 0]) (pc := 73) (dec_at lsk_140 (k := 41) rfl) rfl ?_
    refine u_ld (v := iV l2) (pc := 75) (dec_at lsk_140 (k := 42) rfl) rfl ?_
    refine u_ld (v := lV (lor (u8.1 (a + 1) (((u.1 ((u.2 a 2) + 2) l1) * 40) + l3)) (u8.1 (a + 13) (u8.1 ((u8.2 a 2) + 3) l1)))) (pc := 76) (dec_at lsk_140 (k := 43) rfl) rfl ?_
    refine u_ld (v := .ref a) (pc := 78) (dec_at lsk_140 (k := 44) rfl) rfl ?_
    refine u_gS (o := 1) (p := a + 1) (pc := 79) (dec_at lsk_140 (k := 45) rfl) f_9_11 hOa rfl rfl ?_
    refine u_ld (v := iV (((u.1 ((u.2 a 2) + 2) l1) * 40) + l3)) (pc := 82) (dec_at lsk_140 (k := 46) rfl) rfl ?_
    refine u_lald (pc := 84) (dec_at lsk_140 (k := 47) rfl) (sa_9_1 hOa) g9 g10 ?_
    refine u_st (st' := [.int (lg_cmp (Int64.ofInt (lor (u8.1 (a + 1) (((u.1 ((u.2 a 2) + 2) l1) * 40) + l3)) (u8.1 (a + 13) (u8.1 ((u8.2 a 2) + 3) l1)))) (Int64.ofInt (u8.1 (a + 1) (((u.1 ((u.2 a 2) + 2) l1) * 40) + l3)))), iV l2]) (pc := 85) (dec_at lsk_140 (k := 48) rfl) rfl ?_
    have g14 := h.1
    have h := h.2
    refine u_ifT (pc := 86) (tgt := 93) (dec_at lsk_140 (k := 49) rfl) rfl (cl_eq (rl_toInt _) g14) (fun e15 => ?_) (fun e15 => ?_)
    · have h := ifT e15 h
      refine u_ld (v := iV 0) (pc := 93) (dec_at lsk_140 (k := 52) rfl) rfl ?_
      refine u_ior (pc := 94) (dec_at lsk_140 (k := 53) rfl) ?_
      refine u_sto (lv' := [.ref a, iV l1, iV (ior l2 0), iV l3, iV (((u.1 ((u.2 a 2) + 2) l1) * 40) + l3), lV (lor (u8.1 (a + 1) (((u.1 ((u.2 a 2) + 2) l1) * 40) + l3)) (u8.1 (a + 13) (u8.1 ((u8.2 a 2) + 3) l1))), .retAddr 0]) (pc := 95) (dec_at lsk_140 (k := 54) rfl) rfl ?_
      refine u_ld (v := .ref a) (pc := 96) (dec_at lsk_140 (k := 55) rfl) rfl ?_
      refine u_gS (o := 1) (p := a + 1) (pc := 97) (dec_at lsk_140 (k := 56) rfl) f_9_11 hOa rfl rfl ?_
      refine u_ld (v := iV (((u.1 ((u.2 a 2) + 2) l1) * 40) + l3)) (pc := 100) (dec_at lsk_140 (k := 57) rfl) rfl ?_
      refine u_ld (v := lV (lor (u8.1 (a + 1) (((u.1 ((u.2 a 2) + 2) l1) * 40) + l3)) (u8.1 (a + 13) (u8.1 ((u8.2 a 2) + 3) l1)))) (pc := 102) (dec_at lsk_140 (k := 58) rfl) rfl ?_
      refine u_last (pc := 104) (dec_at lsk_140 (k := 59) rfl) (sa_9_1 hOa) g9 g10 (fun u16 e17 => ?_)
      have h := h u16 e17
      refine u_inc (lv' := [.ref a, iV l1, iV (ior l2 0), iV (l3 + 1), iV (((u.1 ((u.2 a 2) + 2) l1) * 40) + l3), lV (lor (u8.1 (a + 1) (((u.1 ((u.2 a 2) + 2) l1) * 40) + l3)) (u8.1 (a + 13) (u8.1 ((u8.2 a 2) + 3) l1))), .retAddr 0]) (pc := 105) (dec_at lsk_140 (k := 60) rfl) rfl (by decide) rfl ?_
      refine u_goto (pc := 108) (tgt := 4) (dec_at lsk_140 (k := 61) rfl) rfl ?_
      exact u_weak (sbK (sbK (sbK (sbK (sbD (sbD (sbK sb0))))))) h
    · have h := ifF e15 h
      refine u_ld (v := iV 1) (pc := 89) (dec_at lsk_140 (k := 50) rfl) rfl ?_
      refine u_goto (pc := 90) (tgt := 94) (dec_at lsk_140 (k := 51) rfl) rfl ?_
      refine u_ior (pc := 94) (dec_at lsk_140 (k := 53) rfl) ?_
      refine u_sto (lv' := [.ref a, iV l1, iV (ior l2 1), iV l3, iV (((u.1 ((u.2 a 2) + 2) l1) * 40) + l3), lV (lor (u8.1 (a + 1) (((u.1 ((u.2 a 2) + 2) l1) * 40) + l3)) (u8.1 (a + 13) (u8.1 ((u8.2 a 2) + 3) l1))), .retAddr 0]) (pc := 95) (dec_at lsk_140 (k := 54) rfl) rfl ?_
      refine u_ld (v := .ref a) (pc := 96) (dec_at lsk_140 (k := 55) rfl) rfl ?_
      refine u_gS (o := 1) (p := a + 1) (pc := 97) (dec_at lsk_140 (k := 56) rfl) f_9_11 hOa rfl rfl ?_
      refine u_ld (v := iV (((u.1 ((u.2 a 2) + 2) l1) * 40) + l3)) (pc := 100) (dec_at lsk_140 (k := 57) rfl) rfl ?_
      refine u_ld (v := lV (lor (u8.1 (a + 1) (((u.1 ((u.2 a 2) + 2) l1) * 40) + l3)) (u8.1 (a + 13) (u8.1 ((u8.2 a 2) + 3) l1)))) (pc := 102) (dec_at lsk_140 (k := 58) rfl) rfl ?_
      refine u_last (pc := 104) (dec_at lsk_140 (k := 59) rfl) (sa_9_1 hOa) g9 g10 (fun u18 e19 => ?_)
      have h := h u18 e19
      refine u_inc (lv' := [.ref a, iV l1, iV (ior l2 1), iV (l3 + 1), iV (((u.1 ((u.2 a 2) + 2) l1) * 40) + l3), lV (lor (u8.1 (a + 1) (((u.1 ((u.2 a 2) + 2) l1) * 40) + l3)) (u8.1 (a + 13) (u8.1 ((u8.2 a 2) + 3) l1))), .retAddr 0]) (pc := 105) (dec_at lsk_140 (k := 60) rfl) rfl (by decide) rfl ?_
      refine u_goto (pc := 108) (tgt := 4) (dec_at lsk_140 (k := 61) rfl) rfl ?_
      exact u_weak (sbK (sbK (sbK (sbK (sbD (sbD (sbK sb0))))))) h
  · have h := ifF e4 h
    refine u_ld (v := iV l2) (pc := 111) (dec_at lsk_140 (k := 62) rfl) rfl ?_
    have g20 := h.1
    have h := h.2
    exact u_rZ (pc := 112) (dec_at lsk_140 (k := 63) rfl) rfl g20 h
/-- method 189 -/
def K_189 (d pc : Nat) (lv : ev_L) (st : List Value) (u : uS) (Q : Int → uS → Prop) : Prop := okU d 9 1 false (some .long) prog_8_method_4_code (qL Q) pc lv st u
theorem e_189 {d : Nat} {Q : Int → uS → Prop} {u : uS} {a : Nat} (hOa : isO a 9) (h : cL d 190 [.ref a, .ref (a + 1)] u (fun r2 u1 => Q r2 u1)) : cL (d + 1) 189 [.ref a] u Q := by
  refine u_of me_189 (Nat.le_of_ble_eq_true rfl) ?_
  refine u_ld (v := .ref a) (pc := 0) (dec_at lsk_189 (k := 0) rfl) rfl ?_
  refine u_ld (v := .ref a) (pc := 1) (dec_at lsk_189 (k := 1) rfl) rfl ?_
  refine u_gS (o := 1) (p := a + 1) (pc := 2) (dec_at lsk_189 (k := 2) rfl) f_9_11 hOa rfl rfl ?_
  refine u_cvL (As := [.ref (a + 1)]) (rb := a) (st2 := []) (pc := 5) (dec_at lsk_189 (k := 3) rfl) m_9_83 (Or.inl rfl) rfl (Nat.le_of_ble_eq_true rfl) hOa me_190 rfl h (fun r2 u1 h => ?_)
  exact u_rL (pc := 8) (dec_at lsk_189 (k := 4) rfl) rfl h
/-- method 190 -/
def K_190 (d pc : Nat) (lv : ev_L) (st : List Value) (u : uS) (Q : Int → uS → Prop) : Prop := okU d 9 6 false (some .long) prog_8_method_5_code (qL Q) pc lv st u
theorem e_190 {d : Nat} {Q : Int → uS → Prop} {u : uS} {a l1 : Nat} (hOa : isO a 9) {nl1 : Nat} (hAl1 : isA l1 1 nl1) (h : K_190 (d + 1) 5 [.ref a, .ref l1, lV 0, .retAddr 0, iV 0, .retAddr 0] [] u Q) : cL (d + 2) 190 [.ref a, .ref l1] u Q := by
  refine u_of me_190 (Nat.le_of_ble_eq_true rfl) ?_
  refine u_cl (x := 0) (pc := 0) (dec_at lsk_190 (k := 0) rfl) rfl (by decide) ?_
  refine u_sto (lv' := [.ref a, .ref l1, lV 0, .retAddr 0, .retAddr 0, .retAddr 0]) (pc := 1) (dec_at lsk_190 (k := 1) rfl) rfl ?_
  refine u_ld (v := iV 0) (pc := 2) (dec_at lsk_190 (k := 2) rfl) rfl ?_
  refine u_sto (lv' := [.ref a, .ref l1, lV 0, .retAddr 0, iV 0, .retAddr 0]) (pc := 3) (dec_at lsk_190 (k := 3) rfl) rfl ?_
  exact h
theorem k_190_5 {d : Nat} {Q : Int → uS → Prop} {u : uS} {a l1 : Nat} {l2 l4 : Int} (hOa : isO a 9) {nl1 : Nat} (hAl1 : isA l1 1 nl1) (h : (isO (u.2 a 2) 2) ∧ ((rI l4) ∧ ((rI (u.1 (u.2 a 2) 0)) ∧ (if l4 < u.1 (u.2 a 2) 0 then (K_190 (d + 1) 20 [.ref a, .ref l1, lV l2, .retAddr 0, iV l4, iV 0] [] u Q) else (Q l2 u))))) : K_190 (d + 1) 5 [.ref a, .ref l1, lV l2, .retAddr 0, iV l4, .retAddr 0] [] u Q := by
  unfold K_190
  refine u_ld (v := iV l4) (pc := 5) (dec_at lsk_190 (k := 4) rfl) rfl ?_
  refine u_ld (v := .ref a) (pc := 7) (dec_at lsk_190 (k := 5) rfl) rfl ?_
  refine u_gR (z := 2) (pc := 8) (dec_at lsk_190 (k := 6) rfl) f_9_18 hOa rfl rfl ?_
  have g1 := h.1
  have h := h.2
  refine u_gI (z := 0) (pc := 11) (dec_at lsk_190 (k := 7) rfl) f_9_87 g1 rfl rfl ?_
  have g2 := h.1
  have h := h.2
  have g3 := h.1
  have h := h.2
  refine u_icF (pc := 14) (tgt := 60) (dec_at lsk_190 (k := 8) rfl) rfl (ci_ge g2 g3) (fun e4 => ?_) (fun e4 => ?_)
  · have h := ifT e4 h
    refine u_ld (v := iV 0) (pc := 17) (dec_at lsk_190 (k := 9) rfl) rfl ?_
    refine u_sto (lv' := [.ref a, .ref l1, lV l2, .retAddr 0, iV l4, iV 0]) (pc := 18) (dec_at lsk_190 (k := 10) rfl) rfl ?_
    exact h
  · have h := ifF e4 h
    refine u_ld (v := lV l2) (pc := 60) (dec_at lsk_190 (k := 30) rfl) rfl ?_
    exact u_rL (pc := 61) (dec_at lsk_190 (k := 31) rfl) rfl h
theorem k_190_20 {d : Nat} {Q : Int → uS → Prop} {u : uS} {a l1 : Nat} {l2 l4 l5 : Int} (hOa : isO a 9) {nl1 : Nat} (hAl1 : isA l1 1 nl1) (h : (isO (u.2 a 3) 5) ∧ ((rI l5) ∧ ((rI (u.1 (u.2 a 3) 0)) ∧ (if l5 < u.1 (u.2 a 3) 0 then ((0 ≤ (l4 * 40) + l5) ∧ (((l4 * 40) + l5 < (nl1 : Int)) ∧ (cI (d + 1) 191 [lV (u.1 l1 ((l4 * 40) + l5))] u (fun r8 u7 => (rI r8) ∧ (K_190 (d + 1) 20 [.ref a, .ref l1, lV (l2 + r8), .retAddr 0, iV l4, iV (l5 + 1)] [] u7 Q))))) else (K_190 (d + 1) 5 [.ref a, .ref l1, lV l2, .retAddr 0, iV (l4 + 1), .retAddr 0] [] u Q))))) : K_190 (d + 1) 20 [.ref a, .ref l1, lV l2, .retAddr 0, iV l4, iV l5] [] u Q := by
  unfold K_190
  refine u_ld (v := iV l5) (pc := 20) (dec_at lsk_190 (k := 11) rfl) rfl ?_
  refine u_ld (v := .ref a) (pc := 22) (dec_at lsk_190 (k := 12) rfl) rfl ?_
  refine u_gR (z := 3) (pc := 23) (dec_at lsk_190 (k := 13) rfl) f_9_25 hOa rfl rfl ?_
  have g1 := h.1
  have h := h.2
  refine u_gI (z := 0) (pc := 26) (dec_at lsk_190 (k := 14) rfl) f_9_66 g1 rfl rfl ?_
  have g2 := h.1
  have h := h.2
  have g3 := h.1
  have h := h.2
  refine u_icF (pc := 29) (tgt := 54) (dec_at lsk_190 (k := 15) rfl) rfl (ci_ge g2 g3) (fun e4 => ?_) (fun e4 => ?_)
  · have h := ifT e4 h
    refine u_ld (v := lV l2) (pc := 32) (dec_at lsk_190 (k := 16) rfl) rfl ?_
    refine u_ld (v := .ref l1) (pc := 33) (dec_at lsk_190 (k := 17) rfl) rfl ?_
    refine u_ld (v := iV l4) (pc := 34) (dec_at lsk_190 (k := 18) rfl) rfl ?_
    refine u_ld (v := iV l5) (pc := 36) (dec_at lsk_190 (k := 19) rfl) rfl ?_
    refine u_csI (As := [iV l4, iV l5]) (st2 := [.ref l1, lV l2]) (pc := 38) (dec_at lsk_190 (k := 20) rfl) m_9_72 (Or.inr rfl) rfl (Nat.le_of_ble_eq_true rfl) ?_ (fun _ _ h_ => h_)
    refine u_of me_141 (Nat.le_of_ble_eq_true rfl) ?_
    refine u_ld (v := iV l4) (pc := 0) (dec_at lsk_141 (k := 0) rfl) rfl ?_
    refine u_c (x := 40) (pc := 1) (dec_at lsk_141 (k := 1) rfl) rfl (by decide) ?_
    refine u_imul (pc := 3) (dec_at lsk_141 (k := 2) rfl) ?_
    refine u_ld (v := iV l5) (pc := 4) (dec_at lsk_141 (k := 3) rfl) rfl ?_
    refine u_iadd (pc := 5) (dec_at lsk_141 (k := 4) rfl) ?_
    refine u_rI (pc := 6) (dec_at lsk_141 (k := 5) rfl) rfl ?_
    have g5 := h.1
    have h := h.2
    have g6 := h.1
    have h := h.2
    refine u_lald (pc := 41) (dec_at lsk_190 (k := 21) rfl) hAl1 g5 g6 ?_
    refine u_csI (As := [lV (u.1 l1 ((l4 * 40) + l5))]) (st2 := [lV l2]) (pc := 42) (dec_at lsk_190 (k := 22) rfl) m_9_90 (Or.inl rfl) rfl (Nat.le_of_ble_eq_true rfl) h (fun r8 u7 h => ?_)
    have g9 := h.1
    have h := h.2
    refine u_i2l (pc := 45) (dec_at lsk_190 (k := 23) rfl) g9 ?_
    refine u_ladd (pc := 46) (dec_at lsk_190 (k := 24) rfl) ?_
    refine u_sto (lv' := [.ref a, .ref l1, lV (l2 + r8), .retAddr 0, iV l4, iV l5]) (pc := 47) (dec_at lsk_190 (k := 25) rfl) rfl ?_
    refine u_inc (lv' := [.ref a, .ref l1, lV (l2 + r8), .retAddr 0, iV l4, iV (l5 + 1)]) (pc := 48) (dec_at lsk_190 (k := 26) rfl) rfl (by decide) rfl ?_
    refine u_goto (pc := 51) (tgt := 20) (dec_at lsk_190 (k := 27) rfl) rfl ?_
    exact h
  · have h := ifF e4 h
    refine u_inc (lv' := [.ref a, .ref l1, lV l2, .retAddr 0, iV (l4 + 1), iV l5]) (pc := 54) (dec_at lsk_190 (k := 28) rfl) rfl (by decide) rfl ?_
    refine u_goto (pc := 57) (tgt := 5) (dec_at lsk_190 (k := 29) rfl) rfl ?_
    exact u_weak (sbK (sbK (sbK (sbK (sbK (sbD sb0)))))) h
/-- method 191 -/
def K_191 (d pc : Nat) (lv : ev_L) (st : List Value) (u : uS) (Q : Int → uS → Prop) : Prop := okU d 17 2 false (some .int) prog_16_method_50_code (qI Q) pc lv st u
theorem e_191 {d : Nat} {Q : Int → uS → Prop} {u : uS} {l0 : Int} (h : Q (iand (wI ((((land (((land (l0 - (land (lushr l0 1) 6148914691236517205)) 3689348814741910323) + (land (lushr (l0 - (land (lushr l0 1) 6148914691236517205)) 2) 3689348814741910323)) + (lushr ((land (l0 - (land (lushr l0 1) 6148914691236517205)) 3689348814741910323) + (land (lushr (l0 - (land (lushr l0 1) 6148914691236517205)) 2) 3689348814741910323)) 4)) 1085102592571150095) + (lushr (land (((land (l0 - (land (lushr l0 1) 6148914691236517205)) 3689348814741910323) + (land (lushr (l0 - (land (lushr l0 1) 6148914691236517205)) 2) 3689348814741910323)) + (lushr ((land (l0 - (land (lushr l0 1) 6148914691236517205)) 3689348814741910323) + (land (lushr (l0 - (land (lushr l0 1) 6148914691236517205)) 2) 3689348814741910323)) 4)) 1085102592571150095) 8)) + (lushr ((land (((land (l0 - (land (lushr l0 1) 6148914691236517205)) 3689348814741910323) + (land (lushr (l0 - (land (lushr l0 1) 6148914691236517205)) 2) 3689348814741910323)) + (lushr ((land (l0 - (land (lushr l0 1) 6148914691236517205)) 3689348814741910323) + (land (lushr (l0 - (land (lushr l0 1) 6148914691236517205)) 2) 3689348814741910323)) 4)) 1085102592571150095) + (lushr (land (((land (l0 - (land (lushr l0 1) 6148914691236517205)) 3689348814741910323) + (land (lushr (l0 - (land (lushr l0 1) 6148914691236517205)) 2) 3689348814741910323)) + (lushr ((land (l0 - (land (lushr l0 1) 6148914691236517205)) 3689348814741910323) + (land (lushr (l0 - (land (lushr l0 1) 6148914691236517205)) 2) 3689348814741910323)) 4)) 1085102592571150095) 8)) 16)) + (lushr (((land (((land (l0 - (land (lushr l0 1) 6148914691236517205)) 3689348814741910323) + (land (lushr (l0 - (land (lushr l0 1) 6148914691236517205)) 2) 3689348814741910323)) + (lushr ((land (l0 - (land (lushr l0 1) 6148914691236517205)) 3689348814741910323) + (land (lushr (l0 - (land (lushr l0 1) 6148914691236517205)) 2) 3689348814741910323)) 4)) 1085102592571150095) + (lushr (land (((land (l0 - (land (lushr l0 1) 6148914691236517205)) 3689348814741910323) + (land (lushr (l0 - (land (lushr l0 1) 6148914691236517205)) 2) 3689348814741910323)) + (lushr ((land (l0 - (land (lushr l0 1) 6148914691236517205)) 3689348814741910323) + (land (lushr (l0 - (land (lushr l0 1) 6148914691236517205)) 2) 3689348814741910323)) 4)) 1085102592571150095) 8)) + (lushr ((land (((land (l0 - (land (lushr l0 1) 6148914691236517205)) 3689348814741910323) + (land (lushr (l0 - (land (lushr l0 1) 6148914691236517205)) 2) 3689348814741910323)) + (lushr ((land (l0 - (land (lushr l0 1) 6148914691236517205)) 3689348814741910323) + (land (lushr (l0 - (land (lushr l0 1) 6148914691236517205)) 2) 3689348814741910323)) 4)) 1085102592571150095) + (lushr (land (((land (l0 - (land (lushr l0 1) 6148914691236517205)) 3689348814741910323) + (land (lushr (l0 - (land (lushr l0 1) 6148914691236517205)) 2) 3689348814741910323)) + (lushr ((land (l0 - (land (lushr l0 1) 6148914691236517205)) 3689348814741910323) + (land (lushr (l0 - (land (lushr l0 1) 6148914691236517205)) 2) 3689348814741910323)) 4)) 1085102592571150095) 8)) 16)) 32))) 127) u) : cI (d + 1) 191 [lV l0] u Q := by
  refine u_of me_191 (Nat.le_of_ble_eq_true rfl) ?_
  refine u_ld (v := lV l0) (pc := 0) (dec_at lsk_191 (k := 0) rfl) rfl ?_
  refine u_ld (v := lV l0) (pc := 1) (dec_at lsk_191 (k := 1) rfl) rfl ?_
  refine u_ld (v := iV 1) (pc := 2) (dec_at lsk_191 (k := 2) rfl) rfl ?_
  refine u_lushr (pc := 3) (dec_at lsk_191 (k := 3) rfl) ?_
  refine u_ldc2 (x := 6148914691236517205) (pc := 4) (dec_at lsk_191 (k := 4) rfl) con_17_314 (by decide) ?_
  refine u_land (pc := 7) (dec_at lsk_191 (k := 5) rfl) ?_
  refine u_lsub (pc := 8) (dec_at lsk_191 (k := 6) rfl) ?_
  refine u_sto (lv' := [lV (l0 - (land (lushr l0 1) 6148914691236517205)), .retAddr 0]) (pc := 9) (dec_at lsk_191 (k := 7) rfl) rfl ?_
  refine u_ld (v := lV (l0 - (land (lushr l0 1) 6148914691236517205))) (pc := 10) (dec_at lsk_191 (k := 8) rfl) rfl ?_
  refine u_ldc2 (x := 3689348814741910323) (pc := 11) (dec_at lsk_191 (k := 9) rfl) con_17_316 (by decide) ?_
  refine u_land (pc := 14) (dec_at lsk_191 (k := 10) rfl) ?_
  refine u_ld (v := lV (l0 - (land (lushr l0 1) 6148914691236517205))) (pc := 15) (dec_at lsk_191 (k := 11) rfl) rfl ?_
  refine u_ld (v := iV 2) (pc := 16) (dec_at lsk_191 (k := 12) rfl) rfl ?_
  refine u_lushr (pc := 17) (dec_at lsk_191 (k := 13) rfl) ?_
  refine u_ldc2 (x := 3689348814741910323) (pc := 18) (dec_at lsk_191 (k := 14) rfl) con_17_316 (by decide) ?_
  refine u_land (pc := 21) (dec_at lsk_191 (k := 15) rfl) ?_
  refine u_ladd (pc := 22) (dec_at lsk_191 (k := 16) rfl) ?_
  refine u_sto (lv' := [lV ((land (l0 - (land (lushr l0 1) 6148914691236517205)) 3689348814741910323) + (land (lushr (l0 - (land (lushr l0 1) 6148914691236517205)) 2) 3689348814741910323)), .retAddr 0]) (pc := 23) (dec_at lsk_191 (k := 17) rfl) rfl ?_
  refine u_ld (v := lV ((land (l0 - (land (lushr l0 1) 6148914691236517205)) 3689348814741910323) + (land (lushr (l0 - (land (lushr l0 1) 6148914691236517205)) 2) 3689348814741910323))) (pc := 24) (dec_at lsk_191 (k := 18) rfl) rfl ?_
  refine u_ld (v := lV ((land (l0 - (land (lushr l0 1) 6148914691236517205)) 3689348814741910323) + (land (lushr (l0 - (land (lushr l0 1) 6148914691236517205)) 2) 3689348814741910323))) (pc := 25) (dec_at lsk_191 (k := 19) rfl) rfl ?_
  refine u_ld (v := iV 4) (pc := 26) (dec_at lsk_191 (k := 20) rfl) rfl ?_
  refine u_lushr (pc := 27) (dec_at lsk_191 (k := 21) rfl) ?_
  refine u_ladd (pc := 28) (dec_at lsk_191 (k := 22) rfl) ?_
  refine u_ldc2 (x := 1085102592571150095) (pc := 29) (dec_at lsk_191 (k := 23) rfl) con_17_318 (by decide) ?_
  refine u_land (pc := 32) (dec_at lsk_191 (k := 24) rfl) ?_
  refine u_sto (lv' := [lV (land (((land (l0 - (land (lushr l0 1) 6148914691236517205)) 3689348814741910323) + (land (lushr (l0 - (land (lushr l0 1) 6148914691236517205)) 2) 3689348814741910323)) + (lushr ((land (l0 - (land (lushr l0 1) 6148914691236517205)) 3689348814741910323) + (land (lushr (l0 - (land (lushr l0 1) 6148914691236517205)) 2) 3689348814741910323)) 4)) 1085102592571150095), .retAddr 0]) (pc := 33) (dec_at lsk_191 (k := 25) rfl) rfl ?_
  refine u_ld (v := lV (land (((land (l0 - (land (lushr l0 1) 6148914691236517205)) 3689348814741910323) + (land (lushr (l0 - (land (lushr l0 1) 6148914691236517205)) 2) 3689348814741910323)) + (lushr ((land (l0 - (land (lushr l0 1) 6148914691236517205)) 3689348814741910323) + (land (lushr (l0 - (land (lushr l0 1) 6148914691236517205)) 2) 3689348814741910323)) 4)) 1085102592571150095)) (pc := 34) (dec_at lsk_191 (k := 26) rfl) rfl ?_
  refine u_ld (v := lV (land (((land (l0 - (land (lushr l0 1) 6148914691236517205)) 3689348814741910323) + (land (lushr (l0 - (land (lushr l0 1) 6148914691236517205)) 2) 3689348814741910323)) + (lushr ((land (l0 - (land (lushr l0 1) 6148914691236517205)) 3689348814741910323) + (land (lushr (l0 - (land (lushr l0 1) 6148914691236517205)) 2) 3689348814741910323)) 4)) 1085102592571150095)) (pc := 35) (dec_at lsk_191 (k := 27) rfl) rfl ?_
  refine u_c (x := 8) (pc := 36) (dec_at lsk_191 (k := 28) rfl) rfl (by decide) ?_
  refine u_lushr (pc := 38) (dec_at lsk_191 (k := 29) rfl) ?_
  refine u_ladd (pc := 39) (dec_at lsk_191 (k := 30) rfl) ?_
  refine u_sto (lv' := [lV ((land (((land (l0 - (land (lushr l0 1) 6148914691236517205)) 3689348814741910323) + (land (lushr (l0 - (land (lushr l0 1) 6148914691236517205)) 2) 3689348814741910323)) + (lushr ((land (l0 - (land (lushr l0 1) 6148914691236517205)) 3689348814741910323) + (land (lushr (l0 - (land (lushr l0 1) 6148914691236517205)) 2) 3689348814741910323)) 4)) 1085102592571150095) + (lushr (land (((land (l0 - (land (lushr l0 1) 6148914691236517205)) 3689348814741910323) + (land (lushr (l0 - (land (lushr l0 1) 6148914691236517205)) 2) 3689348814741910323)) + (lushr ((land (l0 - (land (lushr l0 1) 6148914691236517205)) 3689348814741910323) + (land (lushr (l0 - (land (lushr l0 1) 6148914691236517205)) 2) 3689348814741910323)) 4)) 1085102592571150095) 8)), .retAddr 0]) (pc := 40) (dec_at lsk_191 (k := 31) rfl) rfl ?_
  refine u_ld (v := lV ((land (((land (l0 - (land (lushr l0 1) 6148914691236517205)) 3689348814741910323) + (land (lushr (l0 - (land (lushr l0 1) 6148914691236517205)) 2) 3689348814741910323)) + (lushr ((land (l0 - (land (lushr l0 1) 6148914691236517205)) 3689348814741910323) + (land (lushr (l0 - (land (lushr l0 1) 6148914691236517205)) 2) 3689348814741910323)) 4)) 1085102592571150095) + (lushr (land (((land (l0 - (land (lushr l0 1) 6148914691236517205)) 3689348814741910323) + (land (lushr (l0 - (land (lushr l0 1) 6148914691236517205)) 2) 3689348814741910323)) + (lushr ((land (l0 - (land (lushr l0 1) 6148914691236517205)) 3689348814741910323) + (land (lushr (l0 - (land (lushr l0 1) 6148914691236517205)) 2) 3689348814741910323)) 4)) 1085102592571150095) 8))) (pc := 41) (dec_at lsk_191 (k := 32) rfl) rfl ?_
  refine u_ld (v := lV ((land (((land (l0 - (land (lushr l0 1) 6148914691236517205)) 3689348814741910323) + (land (lushr (l0 - (land (lushr l0 1) 6148914691236517205)) 2) 3689348814741910323)) + (lushr ((land (l0 - (land (lushr l0 1) 6148914691236517205)) 3689348814741910323) + (land (lushr (l0 - (land (lushr l0 1) 6148914691236517205)) 2) 3689348814741910323)) 4)) 1085102592571150095) + (lushr (land (((land (l0 - (land (lushr l0 1) 6148914691236517205)) 3689348814741910323) + (land (lushr (l0 - (land (lushr l0 1) 6148914691236517205)) 2) 3689348814741910323)) + (lushr ((land (l0 - (land (lushr l0 1) 6148914691236517205)) 3689348814741910323) + (land (lushr (l0 - (land (lushr l0 1) 6148914691236517205)) 2) 3689348814741910323)) 4)) 1085102592571150095) 8))) (pc := 42) (dec_at lsk_191 (k := 33) rfl) rfl ?_
  refine u_c (x := 16) (pc := 43) (dec_at lsk_191 (k := 34) rfl) rfl (by decide) ?_
  refine u_lushr (pc := 45) (dec_at lsk_191 (k := 35) rfl) ?_
  refine u_ladd (pc := 46) (dec_at lsk_191 (k := 36) rfl) ?_
  refine u_sto (lv' := [lV (((land (((land (l0 - (land (lushr l0 1) 6148914691236517205)) 3689348814741910323) + (land (lushr (l0 - (land (lushr l0 1) 6148914691236517205)) 2) 3689348814741910323)) + (lushr ((land (l0 - (land (lushr l0 1) 6148914691236517205)) 3689348814741910323) + (land (lushr (l0 - (land (lushr l0 1) 6148914691236517205)) 2) 3689348814741910323)) 4)) 1085102592571150095) + (lushr (land (((land (l0 - (land (lushr l0 1) 6148914691236517205)) 3689348814741910323) + (land (lushr (l0 - (land (lushr l0 1) 6148914691236517205)) 2) 3689348814741910323)) + (lushr ((land (l0 - (land (lushr l0 1) 6148914691236517205)) 3689348814741910323) + (land (lushr (l0 - (land (lushr l0 1) 6148914691236517205)) 2) 3689348814741910323)) 4)) 1085102592571150095) 8)) + (lushr ((land (((land (l0 - (land (lushr l0 1) 6148914691236517205)) 3689348814741910323) + (land (lushr (l0 - (land (lushr l0 1) 6148914691236517205)) 2) 3689348814741910323)) + (lushr ((land (l0 - (land (lushr l0 1) 6148914691236517205)) 3689348814741910323) + (land (lushr (l0 - (land (lushr l0 1) 6148914691236517205)) 2) 3689348814741910323)) 4)) 1085102592571150095) + (lushr (land (((land (l0 - (land (lushr l0 1) 6148914691236517205)) 3689348814741910323) + (land (lushr (l0 - (land (lushr l0 1) 6148914691236517205)) 2) 3689348814741910323)) + (lushr ((land (l0 - (land (lushr l0 1) 6148914691236517205)) 3689348814741910323) + (land (lushr (l0 - (land (lushr l0 1) 6148914691236517205)) 2) 3689348814741910323)) 4)) 1085102592571150095) 8)) 16)), .retAddr 0]) (pc := 47) (dec_at lsk_191 (k := 37) rfl) rfl ?_
  refine u_ld (v := lV (((land (((land (l0 - (land (lushr l0 1) 6148914691236517205)) 3689348814741910323) + (land (lushr (l0 - (land (lushr l0 1) 6148914691236517205)) 2) 3689348814741910323)) + (lushr ((land (l0 - (land (lushr l0 1) 6148914691236517205)) 3689348814741910323) + (land (lushr (l0 - (land (lushr l0 1) 6148914691236517205)) 2) 3689348814741910323)) 4)) 1085102592571150095) + (lushr (land (((land (l0 - (land (lushr l0 1) 6148914691236517205)) 3689348814741910323) + (land (lushr (l0 - (land (lushr l0 1) 6148914691236517205)) 2) 3689348814741910323)) + (lushr ((land (l0 - (land (lushr l0 1) 6148914691236517205)) 3689348814741910323) + (land (lushr (l0 - (land (lushr l0 1) 6148914691236517205)) 2) 3689348814741910323)) 4)) 1085102592571150095) 8)) + (lushr ((land (((land (l0 - (land (lushr l0 1) 6148914691236517205)) 3689348814741910323) + (land (lushr (l0 - (land (lushr l0 1) 6148914691236517205)) 2) 3689348814741910323)) + (lushr ((land (l0 - (land (lushr l0 1) 6148914691236517205)) 3689348814741910323) + (land (lushr (l0 - (land (lushr l0 1) 6148914691236517205)) 2) 3689348814741910323)) 4)) 1085102592571150095) + (lushr (land (((land (l0 - (land (lushr l0 1) 6148914691236517205)) 3689348814741910323) + (land (lushr (l0 - (land (lushr l0 1) 6148914691236517205)) 2) 3689348814741910323)) + (lushr ((land (l0 - (land (lushr l0 1) 6148914691236517205)) 3689348814741910323) + (land (lushr (l0 - (land (lushr l0 1) 6148914691236517205)) 2) 3689348814741910323)) 4)) 1085102592571150095) 8)) 16))) (pc := 48) (dec_at lsk_191 (k := 38) rfl) rfl ?_
  refine u_ld (v := lV (((land (((land (l0 - (land (lushr l0 1) 6148914691236517205)) 3689348814741910323) + (land (lushr (l0 - (land (lushr l0 1) 6148914691236517205)) 2) 3689348814741910323)) + (lushr ((land (l0 - (land (lushr l0 1) 6148914691236517205)) 3689348814741910323) + (land (lushr (l0 - (land (lushr l0 1) 6148914691236517205)) 2) 3689348814741910323)) 4)) 1085102592571150095) + (lushr (land (((land (l0 - (land (lushr l0 1) 6148914691236517205)) 3689348814741910323) + (land (lushr (l0 - (land (lushr l0 1) 6148914691236517205)) 2) 3689348814741910323)) + (lushr ((land (l0 - (land (lushr l0 1) 6148914691236517205)) 3689348814741910323) + (land (lushr (l0 - (land (lushr l0 1) 6148914691236517205)) 2) 3689348814741910323)) 4)) 1085102592571150095) 8)) + (lushr ((land (((land (l0 - (land (lushr l0 1) 6148914691236517205)) 3689348814741910323) + (land (lushr (l0 - (land (lushr l0 1) 6148914691236517205)) 2) 3689348814741910323)) + (lushr ((land (l0 - (land (lushr l0 1) 6148914691236517205)) 3689348814741910323) + (land (lushr (l0 - (land (lushr l0 1) 6148914691236517205)) 2) 3689348814741910323)) 4)) 1085102592571150095) + (lushr (land (((land (l0 - (land (lushr l0 1) 6148914691236517205)) 3689348814741910323) + (land (lushr (l0 - (land (lushr l0 1) 6148914691236517205)) 2) 3689348814741910323)) + (lushr ((land (l0 - (land (lushr l0 1) 6148914691236517205)) 3689348814741910323) + (land (lushr (l0 - (land (lushr l0 1) 6148914691236517205)) 2) 3689348814741910323)) 4)) 1085102592571150095) 8)) 16))) (pc := 49) (dec_at lsk_191 (k := 39) rfl) rfl ?_
  refine u_c (x := 32) (pc := 50) (dec_at lsk_191 (k := 40) rfl) rfl (by decide) ?_
  refine u_lushr (pc := 52) (dec_at lsk_191 (k := 41) rfl) ?_
  refine u_ladd (pc := 53) (dec_at lsk_191 (k := 42) rfl) ?_
  refine u_sto (lv' := [lV ((((land (((land (l0 - (land (lushr l0 1) 6148914691236517205)) 3689348814741910323) + (land (lushr (l0 - (land (lushr l0 1) 6148914691236517205)) 2) 3689348814741910323)) + (lushr ((land (l0 - (land (lushr l0 1) 6148914691236517205)) 3689348814741910323) + (land (lushr (l0 - (land (lushr l0 1) 6148914691236517205)) 2) 3689348814741910323)) 4)) 1085102592571150095) + (lushr (land (((land (l0 - (land (lushr l0 1) 6148914691236517205)) 3689348814741910323) + (land (lushr (l0 - (land (lushr l0 1) 6148914691236517205)) 2) 3689348814741910323)) + (lushr ((land (l0 - (land (lushr l0 1) 6148914691236517205)) 3689348814741910323) + (land (lushr (l0 - (land (lushr l0 1) 6148914691236517205)) 2) 3689348814741910323)) 4)) 1085102592571150095) 8)) + (lushr ((land (((land (l0 - (land (lushr l0 1) 6148914691236517205)) 3689348814741910323) + (land (lushr (l0 - (land (lushr l0 1) 6148914691236517205)) 2) 3689348814741910323)) + (lushr ((land (l0 - (land (lushr l0 1) 6148914691236517205)) 3689348814741910323) + (land (lushr (l0 - (land (lushr l0 1) 6148914691236517205)) 2) 3689348814741910323)) 4)) 1085102592571150095) + (lushr (land (((land (l0 - (land (lushr l0 1) 6148914691236517205)) 3689348814741910323) + (land (lushr (l0 - (land (lushr l0 1) 6148914691236517205)) 2) 3689348814741910323)) + (lushr ((land (l0 - (land (lushr l0 1) 6148914691236517205)) 3689348814741910323) + (land (lushr (l0 - (land (lushr l0 1) 6148914691236517205)) 2) 3689348814741910323)) 4)) 1085102592571150095) 8)) 16)) + (lushr (((land (((land (l0 - (land (lushr l0 1) 6148914691236517205)) 3689348814741910323) + (land (lushr (l0 - (land (lushr l0 1) 6148914691236517205)) 2) 3689348814741910323)) + (lushr ((land (l0 - (land (lushr l0 1) 6148914691236517205)) 3689348814741910323) + (land (lushr (l0 - (land (lushr l0 1) 6148914691236517205)) 2) 3689348814741910323)) 4)) 1085102592571150095) + (lushr (land (((land (l0 - (land (lushr l0 1) 6148914691236517205)) 3689348814741910323) + (land (lushr (l0 - (land (lushr l0 1) 6148914691236517205)) 2) 3689348814741910323)) + (lushr ((land (l0 - (land (lushr l0 1) 6148914691236517205)) 3689348814741910323) + (land (lushr (l0 - (land (lushr l0 1) 6148914691236517205)) 2) 3689348814741910323)) 4)) 1085102592571150095) 8)) + (lushr ((land (((land (l0 - (land (lushr l0 1) 6148914691236517205)) 3689348814741910323) + (land (lushr (l0 - (land (lushr l0 1) 6148914691236517205)) 2) 3689348814741910323)) + (lushr ((land (l0 - (land (lushr l0 1) 6148914691236517205)) 3689348814741910323) + (land (lushr (l0 - (land (lushr l0 1) 6148914691236517205)) 2) 3689348814741910323)) 4)) 1085102592571150095) + (lushr (land (((land (l0 - (land (lushr l0 1) 6148914691236517205)) 3689348814741910323) + (land (lushr (l0 - (land (lushr l0 1) 6148914691236517205)) 2) 3689348814741910323)) + (lushr ((land (l0 - (land (lushr l0 1) 6148914691236517205)) 3689348814741910323) + (land (lushr (l0 - (land (lushr l0 1) 6148914691236517205)) 2) 3689348814741910323)) 4)) 1085102592571150095) 8)) 16)) 32)), .retAddr 0]) (pc := 54) (dec_at lsk_191 (k := 43) rfl) rfl ?_
  refine u_ld (v := lV ((((land (((land (l0 - (land (lushr l0 1) 6148914691236517205)) 3689348814741910323) + (land (lushr (l0 - (land (lushr l0 1) 6148914691236517205)) 2) 3689348814741910323)) + (lushr ((land (l0 - (land (lushr l0 1) 6148914691236517205)) 3689348814741910323) + (land (lushr (l0 - (land (lushr l0 1) 6148914691236517205)) 2) 3689348814741910323)) 4)) 1085102592571150095) + (lushr (land (((land (l0 - (land (lushr l0 1) 6148914691236517205)) 3689348814741910323) + (land (lushr (l0 - (land (lushr l0 1) 6148914691236517205)) 2) 3689348814741910323)) + (lushr ((land (l0 - (land (lushr l0 1) 6148914691236517205)) 3689348814741910323) + (land (lushr (l0 - (land (lushr l0 1) 6148914691236517205)) 2) 3689348814741910323)) 4)) 1085102592571150095) 8)) + (lushr ((land (((land (l0 - (land (lushr l0 1) 6148914691236517205)) 3689348814741910323) + (land (lushr (l0 - (land (lushr l0 1) 6148914691236517205)) 2) 3689348814741910323)) + (lushr ((land (l0 - (land (lushr l0 1) 6148914691236517205)) 3689348814741910323) + (land (lushr (l0 - (land (lushr l0 1) 6148914691236517205)) 2) 3689348814741910323)) 4)) 1085102592571150095) + (lushr (land (((land (l0 - (land (lushr l0 1) 6148914691236517205)) 3689348814741910323) + (land (lushr (l0 - (land (lushr l0 1) 6148914691236517205)) 2) 3689348814741910323)) + (lushr ((land (l0 - (land (lushr l0 1) 6148914691236517205)) 3689348814741910323) + (land (lushr (l0 - (land (lushr l0 1) 6148914691236517205)) 2) 3689348814741910323)) 4)) 1085102592571150095) 8)) 16)) + (lushr (((land (((land (l0 - (land (lushr l0 1) 6148914691236517205)) 3689348814741910323) + (land (lushr (l0 - (land (lushr l0 1) 6148914691236517205)) 2) 3689348814741910323)) + (lushr ((land (l0 - (land (lushr l0 1) 6148914691236517205)) 3689348814741910323) + (land (lushr (l0 - (land (lushr l0 1) 6148914691236517205)) 2) 3689348814741910323)) 4)) 1085102592571150095) + (lushr (land (((land (l0 - (land (lushr l0 1) 6148914691236517205)) 3689348814741910323) + (land (lushr (l0 - (land (lushr l0 1) 6148914691236517205)) 2) 3689348814741910323)) + (lushr ((land (l0 - (land (lushr l0 1) 6148914691236517205)) 3689348814741910323) + (land (lushr (l0 - (land (lushr l0 1) 6148914691236517205)) 2) 3689348814741910323)) 4)) 1085102592571150095) 8)) + (lushr ((land (((land (l0 - (land (lushr l0 1) 6148914691236517205)) 3689348814741910323) + (land (lushr (l0 - (land (lushr l0 1) 6148914691236517205)) 2) 3689348814741910323)) + (lushr ((land (l0 - (land (lushr l0 1) 6148914691236517205)) 3689348814741910323) + (land (lushr (l0 - (land (lushr l0 1) 6148914691236517205)) 2) 3689348814741910323)) 4)) 1085102592571150095) + (lushr (land (((land (l0 - (land (lushr l0 1) 6148914691236517205)) 3689348814741910323) + (land (lushr (l0 - (land (lushr l0 1) 6148914691236517205)) 2) 3689348814741910323)) + (lushr ((land (l0 - (land (lushr l0 1) 6148914691236517205)) 3689348814741910323) + (land (lushr (l0 - (land (lushr l0 1) 6148914691236517205)) 2) 3689348814741910323)) 4)) 1085102592571150095) 8)) 16)) 32))) (pc := 55) (dec_at lsk_191 (k := 44) rfl) rfl ?_
  refine u_l2w (pc := 56) (dec_at lsk_191 (k := 45) rfl) ?_
  refine u_c (x := 127) (pc := 57) (dec_at lsk_191 (k := 46) rfl) rfl (by decide) ?_
  refine u_iand (pc := 59) (dec_at lsk_191 (k := 47) rfl) ?_
  exact u_rI (pc := 60) (dec_at lsk_191 (k := 48) rfl) rfl h
/-- method 192 -/
def K_192 (d pc : Nat) (lv : ev_L) (st : List Value) (u : uS) (Q : Int → uS → Prop) : Prop := okU d 9 4 false (some .long) prog_8_method_6_code (qL Q) pc lv st u
theorem e_192 {d : Nat} {Q : Int → uS → Prop} {u : uS} {a : Nat} (hOa : isO a 9) (h : ∀ u1 : uS, u1 = fil u (a + 14) 0 400 0 → (∀ u3 : uS, u3 = wr u1 a 8 0 → (∀ u5 : uS, u5 = wr u3 a 9 0 → (cV (d + 1) 193 [.ref a, iV 0, lV (u5.1 (a + 1) 0)] u5 (fun u7 => K_192 (d + 1) 31 [.ref a, iV 0, .retAddr 0, .retAddr 0] [] u7 Q))))) : cL (d + 2) 192 [.ref a] u Q := by
  refine u_of me_192 (Nat.le_of_ble_eq_true rfl) ?_
  refine u_ld (v := .ref a) (pc := 0) (dec_at lsk_192 (k := 0) rfl) rfl ?_
  refine u_gS (o := 14) (p := a + 14) (pc := 1) (dec_at lsk_192 (k := 1) rfl) f_9_32 hOa rfl rfl ?_
  refine u_cl (x := 0) (pc := 4) (dec_at lsk_192 (k := 2) rfl) rfl (by decide) ?_
  refine u_csV (As := [.ref (a + 14), lV 0]) (st2 := []) (pc := 5) (dec_at lsk_192 (k := 3) rfl) m_9_53 (Or.inl rfl) rfl (Nat.le_of_ble_eq_true rfl) (q_49 (sa_9_5 hOa)) (fun u1 e2 => ?_)
  have h := h u1 e2
  refine u_ld (v := .ref a) (pc := 8) (dec_at lsk_192 (k := 4) rfl) rfl ?_
  refine u_ld (v := iV 0) (pc := 9) (dec_at lsk_192 (k := 5) rfl) rfl ?_
  refine u_pI (z := 8) (pc := 10) (dec_at lsk_192 (k := 6) rfl) f_9_96 hOa rfl rfl rfl rfl (fun u3 e4 => ?_)
  have h := h u3 e4
  refine u_ld (v := .ref a) (pc := 13) (dec_at lsk_192 (k := 7) rfl) rfl ?_
  refine u_ld (v := iV 0) (pc := 14) (dec_at lsk_192 (k := 8) rfl) rfl ?_
  refine u_pI (z := 9) (pc := 15) (dec_at lsk_192 (k := 9) rfl) f_9_99 hOa rfl rfl rfl rfl (fun u5 e6 => ?_)
  have h := h u5 e6
  refine u_ld (v := .ref a) (pc := 18) (dec_at lsk_192 (k := 10) rfl) rfl ?_
  refine u_ld (v := iV 0) (pc := 19) (dec_at lsk_192 (k := 11) rfl) rfl ?_
  refine u_ld (v := .ref a) (pc := 20) (dec_at lsk_192 (k := 12) rfl) rfl ?_
  refine u_gS (o := 1) (p := a + 1) (pc := 21) (dec_at lsk_192 (k := 13) rfl) f_9_11 hOa rfl rfl ?_
  refine u_ld (v := iV 0) (pc := 24) (dec_at lsk_192 (k := 14) rfl) rfl ?_
  refine u_lald (pc := 25) (dec_at lsk_192 (k := 15) rfl) (sa_9_1 hOa) (by decide) (by decide) ?_
  refine u_cvV (As := [iV 0, lV (u5.1 (a + 1) 0)]) (rb := a) (st2 := []) (pc := 26) (dec_at lsk_192 (k := 16) rfl) m_9_102 (Or.inl rfl) rfl (Nat.le_of_ble_eq_true rfl) hOa me_193 rfl h (fun u7 h => ?_)
  refine u_ld (v := iV 0) (pc := 29) (dec_at lsk_192 (k := 17) rfl) rfl ?_
  refine u_sto (lv' := [.ref a, iV 0, .retAddr 0, .retAddr 0]) (pc := 30) (dec_at lsk_192 (k := 18) rfl) rfl ?_
  exact h
theorem k_192_31 {d : Nat} {Q : Int → uS → Prop} {u : uS} {a : Nat} {l1 : Int} (hOa : isO a 9) (h : (rI (u.1 a 9)) ∧ (if 0 < u.1 a 9 then ((rI l1) ∧ (if 16000 < l1 then (cL (d + 1) 190 [.ref a, .ref (a + 14)] u (fun r6 u5 => Q r6 u5)) else ((0 ≤ u.1 a 8) ∧ ((u.1 a 8 < 400) ∧ ((rI ((u.1 a 8) + 1)) ∧ (∀ u10 : uS, u10 = wr u a 8 (((u.1 a 8) + 1).tmod 400) → (∀ u12 : uS, u12 = wr u10 a 9 ((u10.1 a 9) - 1) → ((0 ≤ u.1 (a + 15) (u.1 a 8)) ∧ ((u.1 (a + 15) (u.1 a 8) < 400) ∧ (∀ u16 : uS, u16 = wr u12 (a + 16) (u.1 (a + 15) (u.1 a 8)) 0 → (K_192 (d + 1) 88 [.ref a, iV l1, iV (u.1 (a + 15) (u.1 a 8)), iV 0] [] u16 Q))))))))))) else (cL (d + 1) 190 [.ref a, .ref (a + 14)] u (fun r19 u18 => Q r19 u18)))) : K_192 (d + 1) 31 [.ref a, iV l1, .retAddr 0, .retAddr 0] [] u Q := by
  unfold K_192
  refine u_ld (v := .ref a) (pc := 31) (dec_at lsk_192 (k := 19) rfl) rfl ?_
  refine u_gI (z := 9) (pc := 32) (dec_at lsk_192 (k := 20) rfl) f_9_99 hOa rfl rfl ?_
  have g1 := h.1
  have h := h.2
  refine u_ifF (pc := 35) (tgt := 142) (dec_at lsk_192 (k := 21) rfl) rfl (c0_le g1) (fun e2 => ?_) (fun e2 => ?_)
  · have h := ifT e2 h
    refine u_ld (v := iV l1) (pc := 38) (dec_at lsk_192 (k := 22) rfl) rfl ?_
    refine u_c (x := 16000) (pc := 39) (dec_at lsk_192 (k := 23) rfl) rfl (by decide) ?_
    have g3 := h.1
    have h := h.2
    refine u_icT (pc := 42) (tgt := 142) (dec_at lsk_192 (k := 24) rfl) rfl (ci_gt g3 (by decide)) (fun e4 => ?_) (fun e4 => ?_)
    · have h := ifT e4 h
      refine u_ld (v := .ref a) (pc := 142) (dec_at lsk_192 (k := 80) rfl) rfl ?_
      refine u_ld (v := .ref a) (pc := 143) (dec_at lsk_192 (k := 81) rfl) rfl ?_
      refine u_gS (o := 14) (p := a + 14) (pc := 144) (dec_at lsk_192 (k := 82) rfl) f_9_32 hOa rfl rfl ?_
      refine u_cvL (As := [.ref (a + 14)]) (rb := a) (st2 := []) (pc := 147) (dec_at lsk_192 (k := 83) rfl) m_9_83 (Or.inl rfl) rfl (Nat.le_of_ble_eq_true rfl) hOa me_190 rfl h (fun r6 u5 h => ?_)
      exact u_rL (pc := 150) (dec_at lsk_192 (k := 84) rfl) rfl h
    · have h := ifF e4 h
      refine u_ld (v := .ref a) (pc := 45) (dec_at lsk_192 (k := 25) rfl) rfl ?_
      refine u_gS (o := 15) (p := a + 15) (pc := 46) (dec_at lsk_192 (k := 26) rfl) f_9_35 hOa rfl rfl ?_
      refine u_ld (v := .ref a) (pc := 49) (dec_at lsk_192 (k := 27) rfl) rfl ?_
      refine u_gI (z := 8) (pc := 50) (dec_at lsk_192 (k := 28) rfl) f_9_96 hOa rfl rfl ?_
      have g7 := h.1
      have h := h.2
      have g8 := h.1
      have h := h.2
      refine u_iald (pc := 53) (dec_at lsk_192 (k := 29) rfl) (sa_9_6 hOa) g7 g8 ?_
      refine u_sto (lv' := [.ref a, iV l1, iV (u.1 (a + 15) (u.1 a 8)), .retAddr 0]) (pc := 54) (dec_at lsk_192 (k := 30) rfl) rfl ?_
      refine u_ld (v := .ref a) (pc := 55) (dec_at lsk_192 (k := 31) rfl) rfl ?_
      refine u_ld (v := .ref a) (pc := 56) (dec_at lsk_192 (k := 32) rfl) rfl ?_
      refine u_gI (z := 8) (pc := 57) (dec_at lsk_192 (k := 33) rfl) f_9_96 hOa rfl rfl ?_
      refine u_ld (v := iV 1) (pc := 60) (dec_at lsk_192 (k := 34) rfl) rfl ?_
      refine u_iadd (pc := 61) (dec_at lsk_192 (k := 35) rfl) ?_
      refine u_c (x := 400) (pc := 62) (dec_at lsk_192 (k := 36) rfl) rfl (by decide) ?_
      have g9 := h.1
      have h := h.2
      refine u_irem (pc := 65) (dec_at lsk_192 (k := 37) rfl) g9 (by decide) (by decide) ?_
      refine u_pI (z := 8) (pc := 66) (dec_at lsk_192 (k := 38) rfl) f_9_96 hOa rfl rfl rfl rfl (fun u10 e11 => ?_)
      have h := h u10 e11
      refine u_ld (v := .ref a) (pc := 69) (dec_at lsk_192 (k := 39) rfl) rfl ?_
      refine u_ld (v := .ref a) (pc := 70) (dec_at lsk_192 (k := 40) rfl) rfl ?_
      refine u_gI (z := 9) (pc := 71) (dec_at lsk_192 (k := 41) rfl) f_9_99 hOa rfl rfl ?_
      refine u_ld (v := iV 1) (pc := 74) (dec_at lsk_192 (k := 42) rfl) rfl ?_
      refine u_isub (pc := 75) (dec_at lsk_192 (k := 43) rfl) ?_
      refine u_pI (z := 9) (pc := 76) (dec_at lsk_192 (k := 44) rfl) f_9_99 hOa rfl rfl rfl rfl (fun u12 e13 => ?_)
      have h := h u12 e13
      refine u_ld (v := .ref a) (pc := 79) (dec_at lsk_192 (k := 45) rfl) rfl ?_
      refine u_gS (o := 16) (p := a + 16) (pc := 80) (dec_at lsk_192 (k := 46) rfl) f_9_39 hOa rfl rfl ?_
      refine u_ld (v := iV (u.1 (a + 15) (u.1 a 8))) (pc := 83) (dec_at lsk_192 (k := 47) rfl) rfl ?_
      refine u_ld (v := iV 0) (pc := 84) (dec_at lsk_192 (k := 48) rfl) rfl ?_
      have g14 := h.1
      have h := h.2
      have g15 := h.1
      have h := h.2
      refine u_zast (pc := 85) (dec_at lsk_192 (k := 49) rfl) (sa_9_7 hOa) g14 g15 (by decide) (fun u16 e17 => ?_)
      have h := h u16 e17
      refine u_ld (v := iV 0) (pc := 86) (dec_at lsk_192 (k := 50) rfl) rfl ?_
      refine u_sto (lv' := [.ref a, iV l1, iV (u.1 (a + 15) (u.1 a 8)), iV 0]) (pc := 87) (dec_at lsk_192 (k := 51) rfl) rfl ?_
      exact h
  · have h := ifF e2 h
    refine u_ld (v := .ref a) (pc := 142) (dec_at lsk_192 (k := 80) rfl) rfl ?_
    refine u_ld (v := .ref a) (pc := 143) (dec_at lsk_192 (k := 81) rfl) rfl ?_
    refine u_gS (o := 14) (p := a + 14) (pc := 144) (dec_at lsk_192 (k := 82) rfl) f_9_32 hOa rfl rfl ?_
    refine u_cvL (As := [.ref (a + 14)]) (rb := a) (st2 := []) (pc := 147) (dec_at lsk_192 (k := 83) rfl) m_9_83 (Or.inl rfl) rfl (Nat.le_of_ble_eq_true rfl) hOa me_190 rfl h (fun r19 u18 h => ?_)
    exact u_rL (pc := 150) (dec_at lsk_192 (k := 84) rfl) rfl h
theorem k_192_88 {d : Nat} {Q : Int → uS → Prop} {u : uS} {a : Nat} {l1 l2 l3 : Int} (hOa : isO a 9) (h : (isO (u.2 a 2) 2) ∧ ((rI l3) ∧ ((rI (u.1 (u.2 a 2) 1)) ∧ (if l3 < u.1 (u.2 a 2) 1 then ((0 ≤ l3) ∧ ((l3 < 30) ∧ ((rI l2) ∧ ((rI (u.1 ((u.2 a 2) + 2) l3)) ∧ ((rI (l2.tdiv 40)) ∧ (if u.1 ((u.2 a 2) + 2) l3 = l2.tdiv 40 then ((0 ≤ l2) ∧ ((l2 < 400) ∧ (cV (d + 1) 194 [.ref a, iV l3, iV (l2.tmod 40), lV (u.1 (a + 14) l2)] u (fun u13 => K_192 (d + 1) 88 [.ref a, iV l1, iV l2, iV (l3 + 1)] [] u13 Q)))) else (K_192 (d + 1) 88 [.ref a, iV l1, iV l2, iV (l3 + 1)] [] u Q))))))) else (K_192 (d + 1) 31 [.ref a, iV (l1 + 1), .retAddr 0, .retAddr 0] [] u Q))))) : K_192 (d + 1) 88 [.ref a, iV l1, iV l2, iV l3] [] u Q := by
  unfold K_192
  refine u_ld (v := iV l3) (pc := 88) (dec_at lsk_192 (k := 52) rfl) rfl ?_
  refine u_ld (v := .ref a) (pc := 89) (dec_at lsk_192 (k := 53) rfl) rfl ?_
  refine u_gR (z := 2) (pc := 90) (dec_at lsk_192 (k := 54) rfl) f_9_18 hOa rfl rfl ?_
  have g1 := h.1
  have h := h.2
  refine u_gI (z := 1) (pc := 93) (dec_at lsk_192 (k := 55) rfl) f_9_59 g1 rfl rfl ?_
  have g2 := h.1
  have h := h.2
  have g3 := h.1
  have h := h.2
  refine u_icF (pc := 96) (tgt := 136) (dec_at lsk_192 (k := 56) rfl) rfl (ci_ge g2 g3) (fun e4 => ?_) (fun e4 => ?_)
  · have h := ifT e4 h
    refine u_ld (v := .ref a) (pc := 99) (dec_at lsk_192 (k := 57) rfl) rfl ?_
    refine u_gR (z := 2) (pc := 100) (dec_at lsk_192 (k := 58) rfl) f_9_18 hOa rfl rfl ?_
    refine u_gS (o := 2) (p := (u.2 a 2) + 2) (pc := 103) (dec_at lsk_192 (k := 59) rfl) f_9_69 g1 rfl rfl ?_
    refine u_ld (v := iV l3) (pc := 106) (dec_at lsk_192 (k := 60) rfl) rfl ?_
    have g5 := h.1
    have h := h.2
    have g6 := h.1
    have h := h.2
    refine u_iald (pc := 107) (dec_at lsk_192 (k := 61) rfl) (sa_2_3 g1) g5 g6 ?_
    refine u_ld (v := iV l2) (pc := 108) (dec_at lsk_192 (k := 62) rfl) rfl ?_
    refine u_c (x := 40) (pc := 109) (dec_at lsk_192 (k := 63) rfl) rfl (by decide) ?_
    have g7 := h.1
    have h := h.2
    refine u_idiv (pc := 111) (dec_at lsk_192 (k := 64) rfl) g7 (by decide) (by decide) ?_
    have g8 := h.1
    have h := h.2
    have g9 := h.1
    have h := h.2
    refine u_icF (pc := 112) (tgt := 130) (dec_at lsk_192 (k := 65) rfl) rfl (ci_ne g8 g9) (fun e10 => ?_) (fun e10 => ?_)
    · have h := ifT e10 h
      refine u_ld (v := .ref a) (pc := 115) (dec_at lsk_192 (k := 66) rfl) rfl ?_
      refine u_ld (v := iV l3) (pc := 116) (dec_at lsk_192 (k := 67) rfl) rfl ?_
      refine u_ld (v := iV l2) (pc := 117) (dec_at lsk_192 (k := 68) rfl) rfl ?_
      refine u_c (x := 40) (pc := 118) (dec_at lsk_192 (k := 69) rfl) rfl (by decide) ?_
      refine u_irem (pc := 120) (dec_at lsk_192 (k := 70) rfl) g7 (by decide) (by decide) ?_
      refine u_ld (v := .ref a) (pc := 121) (dec_at lsk_192 (k := 71) rfl) rfl ?_
      refine u_gS (o := 14) (p := a + 14) (pc := 122) (dec_at lsk_192 (k := 72) rfl) f_9_32 hOa rfl rfl ?_
      refine u_ld (v := iV l2) (pc := 125) (dec_at lsk_192 (k := 73) rfl) rfl ?_
      have g11 := h.1
      have h := h.2
      have g12 := h.1
      have h := h.2
      refine u_lald (pc := 126) (dec_at lsk_192 (k := 74) rfl) (sa_9_5 hOa) g11 g12 ?_
      refine u_cvV (As := [iV l3, iV (l2.tmod 40), lV (u.1 (a + 14) l2)]) (rb := a) (st2 := []) (pc := 127) (dec_at lsk_192 (k := 75) rfl) m_9_106 (Or.inl rfl) rfl (Nat.le_of_ble_eq_true rfl) hOa me_194 rfl h (fun u13 h => ?_)
      refine u_inc (lv' := [.ref a, iV l1, iV l2, iV (l3 + 1)]) (pc := 130) (dec_at lsk_192 (k := 76) rfl) rfl (by decide) rfl ?_
      refine u_goto (pc := 133) (tgt := 88) (dec_at lsk_192 (k := 77) rfl) rfl ?_
      exact h
    · have h := ifF e10 h
      refine u_inc (lv' := [.ref a, iV l1, iV l2, iV (l3 + 1)]) (pc := 130) (dec_at lsk_192 (k := 76) rfl) rfl (by decide) rfl ?_
      refine u_goto (pc := 133) (tgt := 88) (dec_at lsk_192 (k := 77) rfl) rfl ?_
      exact h
  · have h := ifF e4 h
    refine u_inc (lv' := [.ref a, iV (l1 + 1), iV l2, iV l3]) (pc := 136) (dec_at lsk_192 (k := 78) rfl) rfl (by decide) rfl ?_
    refine u_goto (pc := 139) (tgt := 31) (dec_at lsk_192 (k := 79) rfl) rfl ?_
    exact u_weak (sbK (sbK (sbD (sbD sb0)))) h
/-- method 193 -/
def K_193 (d pc : Nat) (lv : ev_L) (st : List Value) (u : uS) (Q : uS → Prop) : Prop := okU d 9 4 false none prog_8_method_7_code (qV Q) pc lv st u
theorem e_193 {d : Nat} {Q : uS → Prop} {u : uS} {a : Nat} {l1 l2 : Int} (hOa : isO a 9) (h : (0 ≤ l1) ∧ ((l1 < 400) ∧ (if land l2 (lxor (u.1 (a + 14) l1) (-1)) = 0 then (Q u) else (∀ u4 : uS, u4 = wr u (a + 14) l1 (lor (u.1 (a + 14) l1) l2) → ((rI (u4.1 (a + 16) l1)) ∧ (if u4.1 (a + 16) l1 = 0 then ((rI (u4.1 a 9)) ∧ (if u4.1 a 9 < 400 then (∀ u10 : uS, u10 = wr u4 (a + 16) l1 1 → ((rI ((u10.1 a 8) + (u10.1 a 9))) ∧ ((0 ≤ ((u10.1 a 8) + (u10.1 a 9)).tmod 400) ∧ ((((u10.1 a 8) + (u10.1 a 9)).tmod 400 < 400) ∧ (∀ u15 : uS, u15 = wr u10 (a + 15) (((u10.1 a 8) + (u10.1 a 9)).tmod 400) l1 → (∀ u17 : uS, u17 = wr u15 a 9 ((u15.1 a 9) + 1) → (Q u17))))))) else (Q u4))) else (Q u4))))))) : cV (d + 1) 193 [.ref a, iV l1, lV l2] u Q := by
  refine u_of me_193 (Nat.le_of_ble_eq_true rfl) ?_
  refine u_ld (v := lV l2) (pc := 0) (dec_at lsk_193 (k := 0) rfl) rfl ?_
  refine u_ld (v := .ref a) (pc := 1) (dec_at lsk_193 (k := 1) rfl) rfl ?_
  refine u_gS (o := 14) (p := a + 14) (pc := 2) (dec_at lsk_193 (k := 2) rfl) f_9_32 hOa rfl rfl ?_
  refine u_ld (v := iV l1) (pc := 5) (dec_at lsk_193 (k := 3) rfl) rfl ?_
  have g1 := h.1
  have h := h.2
  have g2 := h.1
  have h := h.2
  refine u_lald (pc := 6) (dec_at lsk_193 (k := 4) rfl) (sa_9_5 hOa) g1 g2 ?_
  refine u_ldc2 (x := (-1)) (pc := 7) (dec_at lsk_193 (k := 5) rfl) con_9_110 (by decide) ?_
  refine u_lxor (pc := 10) (dec_at lsk_193 (k := 6) rfl) ?_
  refine u_land (pc := 11) (dec_at lsk_193 (k := 7) rfl) ?_
  refine u_cl (x := 0) (pc := 12) (dec_at lsk_193 (k := 8) rfl) rfl (by decide) ?_
  refine u_st (st' := [.int (lg_cmp (Int64.ofInt (land l2 (lxor (u.1 (a + 14) l1) (-1)))) (Int64.ofInt 0))]) (pc := 13) (dec_at lsk_193 (k := 9) rfl) rfl ?_
  refine u_ifF (pc := 14) (tgt := 18) (dec_at lsk_193 (k := 10) rfl) rfl (cl_ne (rl_toInt _) (by decide)) (fun e3 => ?_) (fun e3 => ?_)
  · have h := ifT e3 h
    exact u_rV (pc := 17) (dec_at lsk_193 (k := 11) rfl) rfl h
  · have h := ifF e3 h
    refine u_ld (v := .ref a) (pc := 18) (dec_at lsk_193 (k := 12) rfl) rfl ?_
    refine u_gS (o := 14) (p := a + 14) (pc := 19) (dec_at lsk_193 (k := 13) rfl) f_9_32 hOa rfl rfl ?_
    refine u_ld (v := iV l1) (pc := 22) (dec_at lsk_193 (k := 14) rfl) rfl ?_
    refine u_st (st' := [iV l1, .ref (a + 14), iV l1, .ref (a + 14)]) (pc := 23) (dec_at lsk_193 (k := 15) rfl) rfl ?_
    refine u_lald (pc := 24) (dec_at lsk_193 (k := 16) rfl) (sa_9_5 hOa) g1 g2 ?_
    refine u_ld (v := lV l2) (pc := 25) (dec_at lsk_193 (k := 17) rfl) rfl ?_
    refine u_lor (pc := 26) (dec_at lsk_193 (k := 18) rfl) ?_
    refine u_last (pc := 27) (dec_at lsk_193 (k := 19) rfl) (sa_9_5 hOa) g1 g2 (fun u4 e5 => ?_)
    have h := h u4 e5
    refine u_ld (v := .ref a) (pc := 28) (dec_at lsk_193 (k := 20) rfl) rfl ?_
    refine u_gS (o := 16) (p := a + 16) (pc := 29) (dec_at lsk_193 (k := 21) rfl) f_9_39 hOa rfl rfl ?_
    refine u_ld (v := iV l1) (pc := 32) (dec_at lsk_193 (k := 22) rfl) rfl ?_
    refine u_zald (pc := 33) (dec_at lsk_193 (k := 23) rfl) (sa_9_7 hOa) g1 g2 ?_
    have g6 := h.1
    have h := h.2
    refine u_ifF (pc := 34) (tgt := 83) (dec_at lsk_193 (k := 24) rfl) rfl (c0_ne g6) (fun e7 => ?_) (fun e7 => ?_)
    · have h := ifT e7 h
      refine u_ld (v := .ref a) (pc := 37) (dec_at lsk_193 (k := 25) rfl) rfl ?_
      refine u_gI (z := 9) (pc := 38) (dec_at lsk_193 (k := 26) rfl) f_9_99 hOa rfl rfl ?_
      refine u_c (x := 400) (pc := 41) (dec_at lsk_193 (k := 27) rfl) rfl (by decide) ?_
      have g8 := h.1
      have h := h.2
      refine u_icF (pc := 44) (tgt := 83) (dec_at lsk_193 (k := 28) rfl) rfl (ci_ge g8 (by decide)) (fun e9 => ?_) (fun e9 => ?_)
      · have h := ifT e9 h
        refine u_ld (v := .ref a) (pc := 47) (dec_at lsk_193 (k := 29) rfl) rfl ?_
        refine u_gS (o := 16) (p := a + 16) (pc := 48) (dec_at lsk_193 (k := 30) rfl) f_9_39 hOa rfl rfl ?_
        refine u_ld (v := iV l1) (pc := 51) (dec_at lsk_193 (k := 31) rfl) rfl ?_
        refine u_ld (v := iV 1) (pc := 52) (dec_at lsk_193 (k := 32) rfl) rfl ?_
        refine u_zast (pc := 53) (dec_at lsk_193 (k := 33) rfl) (sa_9_7 hOa) g1 g2 (by decide) (fun u10 e11 => ?_)
        have h := h u10 e11
        refine u_ld (v := .ref a) (pc := 54) (dec_at lsk_193 (k := 34) rfl) rfl ?_
        refine u_gS (o := 15) (p := a + 15) (pc := 55) (dec_at lsk_193 (k := 35) rfl) f_9_35 hOa rfl rfl ?_
        refine u_ld (v := .ref a) (pc := 58) (dec_at lsk_193 (k := 36) rfl) rfl ?_
        refine u_gI (z := 8) (pc := 59) (dec_at lsk_193 (k := 37) rfl) f_9_96 hOa rfl rfl ?_
        refine u_ld (v := .ref a) (pc := 62) (dec_at lsk_193 (k := 38) rfl) rfl ?_
        refine u_gI (z := 9) (pc := 63) (dec_at lsk_193 (k := 39) rfl) f_9_99 hOa rfl rfl ?_
        refine u_iadd (pc := 66) (dec_at lsk_193 (k := 40) rfl) ?_
        refine u_c (x := 400) (pc := 67) (dec_at lsk_193 (k := 41) rfl) rfl (by decide) ?_
        have g12 := h.1
        have h := h.2
        refine u_irem (pc := 70) (dec_at lsk_193 (k := 42) rfl) g12 (by decide) (by decide) ?_
        refine u_ld (v := iV l1) (pc := 71) (dec_at lsk_193 (k := 43) rfl) rfl ?_
        have g13 := h.1
        have h := h.2
        have g14 := h.1
        have h := h.2
        refine u_iast (pc := 72) (dec_at lsk_193 (k := 44) rfl) (sa_9_6 hOa) g13 g14 (fun u15 e16 => ?_)
        have h := h u15 e16
        refine u_ld (v := .ref a) (pc := 73) (dec_at lsk_193 (k := 45) rfl) rfl ?_
        refine u_ld (v := .ref a) (pc := 74) (dec_at lsk_193 (k := 46) rfl) rfl ?_
        refine u_gI (z := 9) (pc := 75) (dec_at lsk_193 (k := 47) rfl) f_9_99 hOa rfl rfl ?_
        refine u_ld (v := iV 1) (pc := 78) (dec_at lsk_193 (k := 48) rfl) rfl ?_
        refine u_iadd (pc := 79) (dec_at lsk_193 (k := 49) rfl) ?_
        refine u_pI (z := 9) (pc := 80) (dec_at lsk_193 (k := 50) rfl) f_9_99 hOa rfl rfl rfl rfl (fun u17 e18 => ?_)
        have h := h u17 e18
        exact u_rV (pc := 83) (dec_at lsk_193 (k := 51) rfl) rfl h
      · have h := ifF e9 h
        exact u_rV (pc := 83) (dec_at lsk_193 (k := 51) rfl) rfl h
    · have h := ifF e7 h
      exact u_rV (pc := 83) (dec_at lsk_193 (k := 51) rfl) rfl h
/-- method 194 -/
def K_194 (d pc : Nat) (lv : ev_L) (st : List Value) (u : uS) (Q : uS → Prop) : Prop := okU d 9 14 false none prog_8_method_8_code (qV Q) pc lv st u
theorem e_194 {d : Nat} {Q : uS → Prop} {u : uS} {a : Nat} {l1 l2 l3 : Int} (hOa : isO a 9) (h : cV (d + 2) 142 [.ref (u.2 a 2), .ref (u.2 a 3), .ref (a + 1), iV l1, iV l2, .ref (a + 13)] u (fun u1 => (isO (u1.2 a 2) 2) ∧ ((0 ≤ l1) ∧ ((l1 < 30) ∧ ((0 ≤ u1.1 ((u1.2 a 2) + 3) l1) ∧ ((u1.1 ((u1.2 a 2) + 3) l1 < 7) ∧ (K_194 (d + 2) 52 [.ref a, iV l1, .retAddr 0, .retAddr 0, .retAddr 0, lV (land (u1.1 (a + 13) (u1.1 ((u1.2 a 2) + 3) l1)) l3), .retAddr 0, iV ((u1.1 ((u1.2 a 2) + 3) l1) - 1), .retAddr 0, .retAddr 0, .retAddr 0, .retAddr 0, .retAddr 0, .retAddr 0] [] u1 Q))))))) : cV (d + 3) 194 [.ref a, iV l1, iV l2, lV l3] u Q := by
  refine u_of me_194 (Nat.le_of_ble_eq_true rfl) ?_
  refine u_ld (v := .ref a) (pc := 0) (dec_at lsk_194 (k := 0) rfl) rfl ?_
  refine u_gR (z := 2) (pc := 1) (dec_at lsk_194 (k := 1) rfl) f_9_18 hOa rfl rfl ?_
  refine u_ld (v := .ref a) (pc := 4) (dec_at lsk_194 (k := 2) rfl) rfl ?_
  refine u_gR (z := 3) (pc := 5) (dec_at lsk_194 (k := 3) rfl) f_9_25 hOa rfl rfl ?_
  refine u_ld (v := .ref a) (pc := 8) (dec_at lsk_194 (k := 4) rfl) rfl ?_
  refine u_gS (o := 1) (p := a + 1) (pc := 9) (dec_at lsk_194 (k := 5) rfl) f_9_11 hOa rfl rfl ?_
  refine u_ld (v := iV l1) (pc := 12) (dec_at lsk_194 (k := 6) rfl) rfl ?_
  refine u_ld (v := iV l2) (pc := 13) (dec_at lsk_194 (k := 7) rfl) rfl ?_
  refine u_ld (v := .ref a) (pc := 14) (dec_at lsk_194 (k := 8) rfl) rfl ?_
  refine u_gS (o := 13) (p := a + 13) (pc := 15) (dec_at lsk_194 (k := 9) rfl) f_9_29 hOa rfl rfl ?_
  refine u_csV (As := [.ref (u.2 a 2), .ref (u.2 a 3), .ref (a + 1), iV l1, iV l2, .ref (a + 13)]) (st2 := []) (pc := 18) (dec_at lsk_194 (k := 10) rfl) m_9_76 (Or.inr rfl) rfl (Nat.le_of_ble_eq_true rfl) h (fun u1 h => ?_)
  refine u_ld (v := .ref a) (pc := 21) (dec_at lsk_194 (k := 11) rfl) rfl ?_
  refine u_gS (o := 13) (p := a + 13) (pc := 22) (dec_at lsk_194 (k := 12) rfl) f_9_29 hOa rfl rfl ?_
  refine u_ld (v := .ref a) (pc := 25) (dec_at lsk_194 (k := 13) rfl) rfl ?_
  refine u_gR (z := 2) (pc := 26) (dec_at lsk_194 (k := 14) rfl) f_9_18 hOa rfl rfl ?_
  have g2 := h.1
  have h := h.2
  refine u_gS (o := 3) (p := (u1.2 a 2) + 3) (pc := 29) (dec_at lsk_194 (k := 15) rfl) f_9_80 g2 rfl rfl ?_
  refine u_ld (v := iV l1) (pc := 32) (dec_at lsk_194 (k := 16) rfl) rfl ?_
  have g3 := h.1
  have h := h.2
  have g4 := h.1
  have h := h.2
  refine u_iald (pc := 33) (dec_at lsk_194 (k := 17) rfl) (sa_2_4 g2) g3 g4 ?_
  have g5 := h.1
  have h := h.2
  have g6 := h.1
  have h := h.2
  refine u_lald (pc := 34) (dec_at lsk_194 (k := 18) rfl) (sa_9_4 hOa) g5 g6 ?_
  refine u_ld (v := lV l3) (pc := 35) (dec_at lsk_194 (k := 19) rfl) rfl ?_
  refine u_land (pc := 36) (dec_at lsk_194 (k := 20) rfl) ?_
  refine u_sto (lv' := [.ref a, iV l1, iV l2, lV l3, .retAddr 0, lV (land (u1.1 (a + 13) (u1.1 ((u1.2 a 2) + 3) l1)) l3), .retAddr 0, .retAddr 0, .retAddr 0, .retAddr 0, .retAddr 0, .retAddr 0, .retAddr 0, .retAddr 0]) (pc := 37) (dec_at lsk_194 (k := 21) rfl) rfl ?_
  refine u_ld (v := .ref a) (pc := 39) (dec_at lsk_194 (k := 22) rfl) rfl ?_
  refine u_gR (z := 2) (pc := 40) (dec_at lsk_194 (k := 23) rfl) f_9_18 hOa rfl rfl ?_
  refine u_gS (o := 3) (p := (u1.2 a 2) + 3) (pc := 43) (dec_at lsk_194 (k := 24) rfl) f_9_80 g2 rfl rfl ?_
  refine u_ld (v := iV l1) (pc := 46) (dec_at lsk_194 (k := 25) rfl) rfl ?_
  refine u_iald (pc := 47) (dec_at lsk_194 (k := 26) rfl) (sa_2_4 g2) g3 g4 ?_
  refine u_ld (v := iV 1) (pc := 48) (dec_at lsk_194 (k := 27) rfl) rfl ?_
  refine u_isub (pc := 49) (dec_at lsk_194 (k := 28) rfl) ?_
  refine u_sto (lv' := [.ref a, iV l1, iV l2, lV l3, .retAddr 0, lV (land (u1.1 (a + 13) (u1.1 ((u1.2 a 2) + 3) l1)) l3), .retAddr 0, iV ((u1.1 ((u1.2 a 2) + 3) l1) - 1), .retAddr 0, .retAddr 0, .retAddr 0, .retAddr 0, .retAddr 0, .retAddr 0]) (pc := 50) (dec_at lsk_194 (k := 29) rfl) rfl ?_
  exact u_weak (sbK (sbK (sbD (sbD (sbK (sbK (sbK (sbK (sbK (sbK (sbK (sbK (sbK (sbK sb0)))))))))))))) h
theorem k_194_52 {d : Nat} {Q : uS → Prop} {u : uS} {a : Nat} {l1 l5 l7 : Int} (hOa : isO a 9) (h : (rI l7) ∧ (if l7 < 0 then (Q u) else ((isO (u.2 a 2) 2) ∧ ((0 ≤ (l1 * 6) + l7) ∧ (((l1 * 6) + l7 < 180) ∧ ((l7 < 7) ∧ (K_194 (d + 2) 81 [.ref a, iV l1, .retAddr 0, .retAddr 0, .retAddr 0, lV l5, .retAddr 0, iV l7, iV (u.1 ((u.2 a 2) + 4) ((l1 * 6) + l7)), lV 0, .retAddr 0, lV (u.1 (a + 13) l7), .retAddr 0, .retAddr 0] [] u Q))))))) : K_194 (d + 2) 52 [.ref a, iV l1, .retAddr 0, .retAddr 0, .retAddr 0, lV l5, .retAddr 0, iV l7, .retAddr 0, .retAddr 0, .retAddr 0, .retAddr 0, .retAddr 0, .retAddr 0] [] u Q := by
  unfold K_194
  refine u_ld (v := iV l7) (pc := 52) (dec_at lsk_194 (k := 30) rfl) rfl ?_
  have g1 := h.1
  have h := h.2
  refine u_ifT (pc := 54) (tgt := 139) (dec_at lsk_194 (k := 31) rfl) rfl (c0_lt g1) (fun e2 => ?_) (fun e2 => ?_)
  · have h := ifT e2 h
    exact u_rV (pc := 139) (dec_at lsk_194 (k := 75) rfl) rfl h
  · have h := ifF e2 h
    refine u_ld (v := .ref a) (pc := 57) (dec_at lsk_194 (k := 32) rfl) rfl ?_
    refine u_gR (z := 2) (pc := 58) (dec_at lsk_194 (k := 33) rfl) f_9_18 hOa rfl rfl ?_
    refine u_ld (v := iV l1) (pc := 61) (dec_at lsk_194 (k := 34) rfl) rfl ?_
    refine u_ld (v := iV l7) (pc := 62) (dec_at lsk_194 (k := 35) rfl) rfl ?_
    have g3 := h.1
    have h := h.2
    refine u_cvI (As := [iV l1, iV l7]) (rb := u.2 a 2) (st2 := []) (pc := 64) (dec_at lsk_194 (k := 36) rfl) m_9_112 (Or.inl rfl) rfl (Nat.le_of_ble_eq_true rfl) g3 me_42 rfl ?_ (fun _ _ h_ => h_)
    refine u_of me_42 (Nat.le_of_ble_eq_true rfl) ?_
    refine u_ld (v := .ref (u.2 a 2)) (pc := 0) (dec_at lsk_42 (k := 0) rfl) rfl ?_
    refine u_gS (o := 4) (p := (u.2 a 2) + 4) (pc := 1) (dec_at lsk_42 (k := 1) rfl) f_2_21 g3 rfl rfl ?_
    refine u_ld (v := iV l1) (pc := 4) (dec_at lsk_42 (k := 2) rfl) rfl ?_
    refine u_c (x := 6) (pc := 5) (dec_at lsk_42 (k := 3) rfl) rfl (by decide) ?_
    refine u_imul (pc := 7) (dec_at lsk_42 (k := 4) rfl) ?_
    refine u_ld (v := iV l7) (pc := 8) (dec_at lsk_42 (k := 5) rfl) rfl ?_
    refine u_iadd (pc := 9) (dec_at lsk_42 (k := 6) rfl) ?_
    have g4 := h.1
    have h := h.2
    have g5 := h.1
    have h := h.2
    refine u_iald (pc := 10) (dec_at lsk_42 (k := 7) rfl) (sa_2_5 g3) g4 g5 ?_
    refine u_rI (pc := 11) (dec_at lsk_42 (k := 8) rfl) rfl ?_
    refine u_sto (lv' := [.ref a, iV l1, .retAddr 0, .retAddr 0, .retAddr 0, lV l5, .retAddr 0, iV l7, iV (u.1 ((u.2 a 2) + 4) ((l1 * 6) + l7)), .retAddr 0, .retAddr 0, .retAddr 0, .retAddr 0, .retAddr 0]) (pc := 67) (dec_at lsk_194 (k := 37) rfl) rfl ?_
    refine u_cl (x := 0) (pc := 69) (dec_at lsk_194 (k := 38) rfl) rfl (by decide) ?_
    refine u_sto (lv' := [.ref a, iV l1, .retAddr 0, .retAddr 0, .retAddr 0, lV l5, .retAddr 0, iV l7, iV (u.1 ((u.2 a 2) + 4) ((l1 * 6) + l7)), lV 0, .retAddr 0, .retAddr 0, .retAddr 0, .retAddr 0]) (pc := 70) (dec_at lsk_194 (k := 39) rfl) rfl ?_
    refine u_ld (v := .ref a) (pc := 72) (dec_at lsk_194 (k := 40) rfl) rfl ?_
    refine u_gS (o := 13) (p := a + 13) (pc := 73) (dec_at lsk_194 (k := 41) rfl) f_9_29 hOa rfl rfl ?_
    refine u_ld (v := iV l7) (pc := 76) (dec_at lsk_194 (k := 42) rfl) rfl ?_
    have g6 := h.1
    have h := h.2
    refine u_lald (pc := 78) (dec_at lsk_194 (k := 43) rfl) (sa_9_4 hOa) (Int.not_lt.mp e2) g6 ?_
    refine u_sto (lv' := [.ref a, iV l1, .retAddr 0, .retAddr 0, .retAddr 0, lV l5, .retAddr 0, iV l7, iV (u.1 ((u.2 a 2) + 4) ((l1 * 6) + l7)), lV 0, .retAddr 0, lV (u.1 (a + 13) l7), .retAddr 0, .retAddr 0]) (pc := 79) (dec_at lsk_194 (k := 44) rfl) rfl ?_
    exact h
theorem k_194_81 {d : Nat} {Q : uS → Prop} {u : uS} {a : Nat} {l1 l5 l7 l8 l9 l11 : Int} (hOa : isO a 9) (h : (rL l11) ∧ (if l11 = 0 then (K_194 (d + 2) 52 [.ref a, iV l1, .retAddr 0, .retAddr 0, .retAddr 0, lV l9, .retAddr 0, iV (l7 + (-1)), .retAddr 0, .retAddr 0, .retAddr 0, .retAddr 0, .retAddr 0, .retAddr 0] [] u Q) else (cI (d + 2) 195 [.ref a, iV l8, iV (ntz l11), lV l5] u (fun r4 u3 => (rI r4) ∧ (if r4 = 0 then (K_194 (d + 2) 81 [.ref a, iV l1, .retAddr 0, .retAddr 0, .retAddr 0, lV l5, .retAddr 0, iV l7, iV l8, lV l9, .retAddr 0, lV (land l11 (l11 - 1)), .retAddr 0, .retAddr 0] [] u3 Q) else (K_194 (d + 2) 81 [.ref a, iV l1, .retAddr 0, .retAddr 0, .retAddr 0, lV l5, .retAddr 0, iV l7, iV l8, lV (lor l9 (lshl 1 (ntz l11))), .retAddr 0, lV (land l11 (l11 - 1)), .retAddr 0, .retAddr 0] [] u3 Q)))))) : K_194 (d + 2) 81 [.ref a, iV l1, .retAddr 0, .retAddr 0, .retAddr 0, lV l5, .retAddr 0, iV l7, iV l8, lV l9, .retAddr 0, lV l11, .retAddr 0, .retAddr 0] [] u Q := by
  unfold K_194
  refine u_ld (v := lV l11) (pc := 81) (dec_at lsk_194 (k := 45) rfl) rfl ?_
  refine u_cl (x := 0) (pc := 83) (dec_at lsk_194 (k := 46) rfl) rfl (by decide) ?_
  refine u_st (st' := [.int (lg_cmp (Int64.ofInt l11) (Int64.ofInt 0))]) (pc := 84) (dec_at lsk_194 (k := 47) rfl) rfl ?_
  have g1 := h.1
  have h := h.2
  refine u_ifT (pc := 85) (tgt := 129) (dec_at lsk_194 (k := 48) rfl) rfl (cl_eq g1 (by decide)) (fun e2 => ?_) (fun e2 => ?_)
  · have h := ifT e2 h
    refine u_ld (v := lV l9) (pc := 129) (dec_at lsk_194 (k := 71) rfl) rfl ?_
    refine u_sto (lv' := [.ref a, iV l1, .retAddr 0, .retAddr 0, .retAddr 0, lV l9, .retAddr 0, iV l7, iV l8, lV l9, .retAddr 0, lV l11, .retAddr 0, .retAddr 0]) (pc := 131) (dec_at lsk_194 (k := 72) rfl) rfl ?_
    refine u_inc (lv' := [.ref a, iV l1, .retAddr 0, .retAddr 0, .retAddr 0, lV l9, .retAddr 0, iV (l7 + (-1)), iV l8, lV l9, .retAddr 0, lV l11, .retAddr 0, .retAddr 0]) (pc := 133) (dec_at lsk_194 (k := 73) rfl) rfl (by decide) rfl ?_
    refine u_goto (pc := 136) (tgt := 52) (dec_at lsk_194 (k := 74) rfl) rfl ?_
    exact u_weak (sbK (sbK (sbK (sbK (sbK (sbK (sbK (sbK (sbD (sbD (sbK (sbD (sbK (sbK sb0)))))))))))))) h
  · have h := ifF e2 h
    refine u_ld (v := lV l11) (pc := 88) (dec_at lsk_194 (k := 49) rfl) rfl ?_
    refine u_csI (As := [lV l11]) (st2 := []) (pc := 90) (dec_at lsk_194 (k := 50) rfl) m_9_115 (Or.inl rfl) rfl (Nat.le_of_ble_eq_true rfl) (p_77 ) (fun r_ u_ h_ => ?_)
    rw [h_.1, h_.2]
    refine u_sto (lv' := [.ref a, iV l1, .retAddr 0, .retAddr 0, .retAddr 0, lV l5, .retAddr 0, iV l7, iV l8, lV l9, .retAddr 0, lV l11, .retAddr 0, iV (ntz l11)]) (pc := 93) (dec_at lsk_194 (k := 51) rfl) rfl ?_
    refine u_ld (v := .ref a) (pc := 95) (dec_at lsk_194 (k := 52) rfl) rfl ?_
    refine u_ld (v := iV l8) (pc := 96) (dec_at lsk_194 (k := 53) rfl) rfl ?_
    refine u_ld (v := iV (ntz l11)) (pc := 98) (dec_at lsk_194 (k := 54) rfl) rfl ?_
    refine u_ld (v := lV l5) (pc := 100) (dec_at lsk_194 (k := 55) rfl) rfl ?_
    refine u_cvI (As := [iV l8, iV (ntz l11), lV l5]) (rb := a) (st2 := []) (pc := 102) (dec_at lsk_194 (k := 56) rfl) m_9_118 (Or.inl rfl) rfl (Nat.le_of_ble_eq_true rfl) hOa me_195 rfl h (fun r4 u3 h => ?_)
    have g5 := h.1
    have h := h.2
    refine u_ifT (pc := 105) (tgt := 117) (dec_at lsk_194 (k := 57) rfl) rfl (c0_eq g5) (fun e6 => ?_) (fun e6 => ?_)
    · have h := ifT e6 h
      refine u_ld (v := lV l11) (pc := 117) (dec_at lsk_194 (k := 64) rfl) rfl ?_
      refine u_ld (v := lV l11) (pc := 119) (dec_at lsk_194 (k := 65) rfl) rfl ?_
      refine u_cl (x := 1) (pc := 121) (dec_at lsk_194 (k := 66) rfl) rfl (by decide) ?_
      refine u_lsub (pc := 122) (dec_at lsk_194 (k := 67) rfl) ?_
      refine u_land (pc := 123) (dec_at lsk_194 (k := 68) rfl) ?_
      refine u_sto (lv' := [.ref a, iV l1, .retAddr 0, .retAddr 0, .retAddr 0, lV l5, .retAddr 0, iV l7, iV l8, lV l9, .retAddr 0, lV (land l11 (l11 - 1)), .retAddr 0, iV (ntz l11)]) (pc := 124) (dec_at lsk_194 (k := 69) rfl) rfl ?_
      refine u_goto (pc := 126) (tgt := 81) (dec_at lsk_194 (k := 70) rfl) rfl ?_
      exact u_weak (sbK (sbK (sbK (sbK (sbK (sbK (sbK (sbK (sbK (sbK (sbK (sbK (sbK (sbD sb0)))))))))))))) h
    · have h := ifF e6 h
      refine u_ld (v := lV l9) (pc := 108) (dec_at lsk_194 (k := 58) rfl) rfl ?_
      refine u_cl (x := 1) (pc := 110) (dec_at lsk_194 (k := 59) rfl) rfl (by decide) ?_
      refine u_ld (v := iV (ntz l11)) (pc := 111) (dec_at lsk_194 (k := 60) rfl) rfl ?_
      refine u_lshl (pc := 113) (dec_at lsk_194 (k := 61) rfl) ?_
      refine u_lor (pc := 114) (dec_at lsk_194 (k := 62) rfl) ?_
      refine u_sto (lv' := [.ref a, iV l1, .retAddr 0, .retAddr 0, .retAddr 0, lV l5, .retAddr 0, iV l7, iV l8, lV (lor l9 (lshl 1 (ntz l11))), .retAddr 0, lV l11, .retAddr 0, iV (ntz l11)]) (pc := 115) (dec_at lsk_194 (k := 63) rfl) rfl ?_
      refine u_ld (v := lV l11) (pc := 117) (dec_at lsk_194 (k := 64) rfl) rfl ?_
      refine u_ld (v := lV l11) (pc := 119) (dec_at lsk_194 (k := 65) rfl) rfl ?_
      refine u_cl (x := 1) (pc := 121) (dec_at lsk_194 (k := 66) rfl) rfl (by decide) ?_
      refine u_lsub (pc := 122) (dec_at lsk_194 (k := 67) rfl) ?_
      refine u_land (pc := 123) (dec_at lsk_194 (k := 68) rfl) ?_
      refine u_sto (lv' := [.ref a, iV l1, .retAddr 0, .retAddr 0, .retAddr 0, lV l5, .retAddr 0, iV l7, iV l8, lV (lor l9 (lshl 1 (ntz l11))), .retAddr 0, lV (land l11 (l11 - 1)), .retAddr 0, iV (ntz l11)]) (pc := 124) (dec_at lsk_194 (k := 69) rfl) rfl ?_
      refine u_goto (pc := 126) (tgt := 81) (dec_at lsk_194 (k := 70) rfl) rfl ?_
      exact u_weak (sbK (sbK (sbK (sbK (sbK (sbK (sbK (sbK (sbK (sbK (sbK (sbK (sbK (sbD sb0)))))))))))))) h
/-- method 195 -/
def K_195 (d pc : Nat) (lv : ev_L) (st : List Value) (u : uS) (Q : Int → uS → Prop) : Prop := okU d 9 8 false (some .boolean) prog_8_method_9_code (qI Q) pc lv st u
theorem e_195 {d : Nat} {Q : Int → uS → Prop} {u : uS} {a : Nat} {l1 l2 l3 : Int} (hOa : isO a 9) (h : (rI l1) ∧ (if l1 < 100 then ((isO (u.2 a 3) 5) ∧ ((0 ≤ (l2 * 10) + l1) ∧ (((l2 * 10) + l1 < 400) ∧ (if land (lushr l3 (u.1 ((u.2 a 3) + 1) ((l2 * 10) + l1))) 1 = 0 then (Q 0 u) else (Q 1 u))))) else ((0 ≤ ((l1 - 100) * 40) + l2) ∧ ((((l1 - 100) * 40) + l2 < 400) ∧ (cV (d + 1) 193 [.ref a, iV (((l1 - 100) * 40) + l2), lV (land (u.1 (a + 1) (((l1 - 100) * 40) + l2)) l3)] u (fun u9 => if land (u.1 (a + 1) (((l1 - 100) * 40) + l2)) l3 = 0 then (Q 0 u9) else (Q 1 u9))))))) : cI (d + 2) 195 [.ref a, iV l1, iV l2, lV l3] u Q := by
  refine u_of me_195 (Nat.le_of_ble_eq_true rfl) ?_
  refine u_ld (v := iV l1) (pc := 0) (dec_at lsk_195 (k := 0) rfl) rfl ?_
  refine u_c (x := 100) (pc := 1) (dec_at lsk_195 (k := 1) rfl) rfl (by decide) ?_
  have g1 := h.1
  have h := h.2
  refine u_icF (pc := 3) (tgt := 30) (dec_at lsk_195 (k := 2) rfl) rfl (ci_ge g1 (by decide)) (fun e2 => ?_) (fun e2 => ?_)
  · have h := ifT e2 h
    refine u_ld (v := lV l3) (pc := 6) (dec_at lsk_195 (k := 3) rfl) rfl ?_
    refine u_ld (v := .ref a) (pc := 7) (dec_at lsk_195 (k := 4) rfl) rfl ?_
    refine u_gR (z := 3) (pc := 8) (dec_at lsk_195 (k := 5) rfl) f_9_25 hOa rfl rfl ?_
    refine u_ld (v := iV l2) (pc := 11) (dec_at lsk_195 (k := 6) rfl) rfl ?_
    refine u_ld (v := iV l1) (pc := 12) (dec_at lsk_195 (k := 7) rfl) rfl ?_
    have g3 := h.1
    have h := h.2
    refine u_cvI (As := [iV l2, iV l1]) (rb := u.2 a 3) (st2 := [lV l3]) (pc := 13) (dec_at lsk_195 (k := 8) rfl) m_9_122 (Or.inl rfl) rfl (Nat.le_of_ble_eq_true rfl) g3 me_75 rfl ?_ (fun _ _ h_ => h_)
    refine u_of me_75 (Nat.le_of_ble_eq_true rfl) ?_
    refine u_ld (v := .ref (u.2 a 3)) (pc := 0) (dec_at lsk_75 (k := 0) rfl) rfl ?_
    refine u_gS (o := 1) (p := (u.2 a 3) + 1) (pc := 1) (dec_at lsk_75 (k := 1) rfl) f_5_15 g3 rfl rfl ?_
    refine u_ld (v := iV l2) (pc := 4) (dec_at lsk_75 (k := 2) rfl) rfl ?_
    refine u_c (x := 10) (pc := 5) (dec_at lsk_75 (k := 3) rfl) rfl (by decide) ?_
    refine u_imul (pc := 7) (dec_at lsk_75 (k := 4) rfl) ?_
    refine u_ld (v := iV l1) (pc := 8) (dec_at lsk_75 (k := 5) rfl) rfl ?_
    refine u_iadd (pc := 9) (dec_at lsk_75 (k := 6) rfl) ?_
    have g4 := h.1
    have h := h.2
    have g5 := h.1
    have h := h.2
    refine u_iald (pc := 10) (dec_at lsk_75 (k := 7) rfl) (sa_5_2 g3) g4 g5 ?_
    refine u_rI (pc := 11) (dec_at lsk_75 (k := 8) rfl) rfl ?_
    refine u_lushr (pc := 16) (dec_at lsk_195 (k := 9) rfl) ?_
    refine u_cl (x := 1) (pc := 17) (dec_at lsk_195 (k := 10) rfl) rfl (by decide) ?_
    refine u_land (pc := 18) (dec_at lsk_195 (k := 11) rfl) ?_
    refine u_cl (x := 0) (pc := 19) (dec_at lsk_195 (k := 12) rfl) rfl (by decide) ?_
    refine u_st (st' := [.int (lg_cmp (Int64.ofInt (land (lushr l3 (u.1 ((u.2 a 3) + 1) ((l2 * 10) + l1))) 1)) (Int64.ofInt 0))]) (pc := 20) (dec_at lsk_195 (k := 13) rfl) rfl ?_
    refine u_ifT (pc := 21) (tgt := 28) (dec_at lsk_195 (k := 14) rfl) rfl (cl_eq (rl_toInt _) (by decide)) (fun e6 => ?_) (fun e6 => ?_)
    · have h := ifT e6 h
      refine u_ld (v := iV 0) (pc := 28) (dec_at lsk_195 (k := 17) rfl) rfl ?_
      exact u_rZ (pc := 29) (dec_at lsk_195 (k := 18) rfl) rfl (by decide) h
    · have h := ifF e6 h
      refine u_ld (v := iV 1) (pc := 24) (dec_at lsk_195 (k := 15) rfl) rfl ?_
      refine u_goto (pc := 25) (tgt := 29) (dec_at lsk_195 (k := 16) rfl) rfl ?_
      exact u_rZ (pc := 29) (dec_at lsk_195 (k := 18) rfl) rfl (by decide) h
  · have h := ifF e2 h
    refine u_ld (v := iV l1) (pc := 30) (dec_at lsk_195 (k := 19) rfl) rfl ?_
    refine u_c (x := 100) (pc := 31) (dec_at lsk_195 (k := 20) rfl) rfl (by decide) ?_
    refine u_isub (pc := 33) (dec_at lsk_195 (k := 21) rfl) ?_
    refine u_ld (v := iV l2) (pc := 34) (dec_at lsk_195 (k := 22) rfl) rfl ?_
    refine u_csI (As := [iV (l1 - 100), iV l2]) (st2 := []) (pc := 35) (dec_at lsk_195 (k := 23) rfl) m_9_72 (Or.inr rfl) rfl (Nat.le_of_ble_eq_true rfl) ?_ (fun _ _ h_ => h_)
    refine u_of me_141 (Nat.le_of_ble_eq_true rfl) ?_
    refine u_ld (v := iV (l1 - 100)) (pc := 0) (dec_at lsk_141 (k := 0) rfl) rfl ?_
    refine u_c (x := 40) (pc := 1) (dec_at lsk_141 (k := 1) rfl) rfl (by decide) ?_
    refine u_imul (pc := 3) (dec_at lsk_141 (k := 2) rfl) ?_
    refine u_ld (v := iV l2) (pc := 4) (dec_at lsk_141 (k := 3) rfl) rfl ?_
    refine u_iadd (pc := 5) (dec_at lsk_141 (k := 4) rfl) ?_
    refine u_rI (pc := 6) (dec_at lsk_141 (k := 5) rfl) rfl ?_
    refine u_sto (lv' := [.ref a, iV l1, iV l2, lV l3, .retAddr 0, iV (((l1 - 100) * 40) + l2), .retAddr 0, .retAddr 0]) (pc := 38) (dec_at lsk_195 (k := 24) rfl) rfl ?_
    refine u_ld (v := .ref a) (pc := 40) (dec_at lsk_195 (k := 25) rfl) rfl ?_
    refine u_gS (o := 1) (p := a + 1) (pc := 41) (dec_at lsk_195 (k := 26) rfl) f_9_11 hOa rfl rfl ?_
    refine u_ld (v := iV (((l1 - 100) * 40) + l2)) (pc := 44) (dec_at lsk_195 (k := 27) rfl) rfl ?_
    have g7 := h.1
    have h := h.2
    have g8 := h.1
    have h := h.2
    refine u_lald (pc := 46) (dec_at lsk_195 (k := 28) rfl) (sa_9_1 hOa) g7 g8 ?_
    refine u_ld (v := lV l3) (pc := 47) (dec_at lsk_195 (k := 29) rfl) rfl ?_
    refine u_land (pc := 48) (dec_at lsk_195 (k := 30) rfl) ?_
    refine u_sto (lv' := [.ref a, iV l1, iV l2, lV l3, .retAddr 0, iV (((l1 - 100) * 40) + l2), lV (land (u.1 (a + 1) (((l1 - 100) * 40) + l2)) l3), .retAddr 0]) (pc := 49) (dec_at lsk_195 (k := 31) rfl) rfl ?_
    refine u_ld (v := .ref a) (pc := 51) (dec_at lsk_195 (k := 32) rfl) rfl ?_
    refine u_ld (v := iV (((l1 - 100) * 40) + l2)) (pc := 52) (dec_at lsk_195 (k := 33) rfl) rfl ?_
    refine u_ld (v := lV (land (u.1 (a + 1) (((l1 - 100) * 40) + l2)) l3)) (pc := 54) (dec_at lsk_195 (k := 34) rfl) rfl ?_
    refine u_cvV (As := [iV (((l1 - 100) * 40) + l2), lV (land (u.1 (a + 1) (((l1 - 100) * 40) + l2)) l3)]) (rb := a) (st2 := []) (pc := 56) (dec_at lsk_195 (k := 35) rfl) m_9_102 (Or.inl rfl) rfl (Nat.le_of_ble_eq_true rfl) hOa me_193 rfl h (fun u9 h => ?_)
    refine u_ld (v := lV (land (u.1 (a + 1) (((l1 - 100) * 40) + l2)) l3)) (pc := 59) (dec_at lsk_195 (k := 36) rfl) rfl ?_
    refine u_cl (x := 0) (pc := 61) (dec_at lsk_195 (k := 37) rfl) rfl (by decide) ?_
    refine u_st (st' := [.int (lg_cmp (Int64.ofInt (land (u.1 (a + 1) (((l1 - 100) * 40) + l2)) l3)) (Int64.ofInt 0))]) (pc := 62) (dec_at lsk_195 (k := 38) rfl) rfl ?_
    refine u_ifT (pc := 63) (tgt := 70) (dec_at lsk_195 (k := 39) rfl) rfl (cl_eq (rl_toInt _) (by decide)) (fun e10 => ?_) (fun e10 => ?_)
    · have h := ifT e10 h
      refine u_ld (v := iV 0) (pc := 70) (dec_at lsk_195 (k := 42) rfl) rfl ?_
      exact u_rZ (pc := 71) (dec_at lsk_195 (k := 43) rfl) rfl (by decide) h
    · have h := ifF e10 h
      refine u_ld (v := iV 1) (pc := 66) (dec_at lsk_195 (k := 40) rfl) rfl ?_
      refine u_goto (pc := 67) (tgt := 71) (dec_at lsk_195 (k := 41) rfl) rfl ?_
      exact u_rZ (pc := 71) (dec_at lsk_195 (k := 43) rfl) rfl (by decide) h
/-- method 196 -/
def K_196 (d pc : Nat) (lv : ev_L) (st : List Value) (u : uS) (Q : Int → uS → Prop) : Prop := okU d 9 5 false (some .long) prog_8_method_10_code (qL Q) pc lv st u
theorem e_196 {d : Nat} {Q : Int → uS → Prop} {u : uS} {a : Nat} (hOa : isO a 9) (h : K_196 (d + 1) 4 [.ref a, lV 0, .retAddr 0, iV 0, .retAddr 0] [] u Q) : cL (d + 2) 196 [.ref a] u Q := by
  refine u_of me_196 (Nat.le_of_ble_eq_true rfl) ?_
  refine u_cl (x := 0) (pc := 0) (dec_at lsk_196 (k := 0) rfl) rfl (by decide) ?_
  refine u_sto (lv' := [.ref a, lV 0, .retAddr 0, .retAddr 0, .retAddr 0]) (pc := 1) (dec_at lsk_196 (k := 1) rfl) rfl ?_
  refine u_ld (v := iV 0) (pc := 2) (dec_at lsk_196 (k := 2) rfl) rfl ?_
  refine u_sto (lv' := [.ref a, lV 0, .retAddr 0, iV 0, .retAddr 0]) (pc := 3) (dec_at lsk_196 (k := 3) rfl) rfl ?_
  exact h
theorem k_196_4 {d : Nat} {Q : Int → uS → Prop} {u : uS} {a : Nat} {l1 l3 : Int} (hOa : isO a 9) (h : (isO (u.2 a 2) 2) ∧ ((rI l3) ∧ ((rI (u.1 (u.2 a 2) 1)) ∧ (if l3 < u.1 (u.2 a 2) 1 then (K_196 (d + 1) 18 [.ref a, lV l1, .retAddr 0, iV l3, iV 0] [] u Q) else (Q l1 u))))) : K_196 (d + 1) 4 [.ref a, lV l1, .retAddr 0, iV l3, .retAddr 0] [] u Q := by
  unfold K_196
  refine u_ld (v := iV l3) (pc := 4) (dec_at lsk_196 (k := 4) rfl) rfl ?_
  refine u_ld (v := .ref a) (pc := 5) (dec_at lsk_196 (k := 5) rfl) rfl ?_
  refine u_gR (z := 2) (pc := 6) (dec_at lsk_196 (k := 6) rfl) f_9_18 hOa rfl rfl ?_
  have g1 := h.1
  have h := h.2
  refine u_gI (z := 1) (pc := 9) (dec_at lsk_196 (k := 7) rfl) f_9_59 g1 rfl rfl ?_
  have g2 := h.1
  have h := h.2
  have g3 := h.1
  have h := h.2
  refine u_icF (pc := 12) (tgt := 54) (dec_at lsk_196 (k := 8) rfl) rfl (ci_ge g2 g3) (fun e4 => ?_) (fun e4 => ?_)
  · have h := ifT e4 h
    refine u_ld (v := iV 0) (pc := 15) (dec_at lsk_196 (k := 9) rfl) rfl ?_
    refine u_sto (lv' := [.ref a, lV l1, .retAddr 0, iV l3, iV 0]) (pc := 16) (dec_at lsk_196 (k := 10) rfl) rfl ?_
    exact h
  · have h := ifF e4 h
    refine u_ld (v := lV l1) (pc := 54) (dec_at lsk_196 (k := 27) rfl) rfl ?_
    exact u_rL (pc := 55) (dec_at lsk_196 (k := 28) rfl) rfl h
theorem k_196_18 {d : Nat} {Q : Int → uS → Prop} {u : uS} {a : Nat} {l1 l3 l4 : Int} (hOa : isO a 9) (h : (isO (u.2 a 3) 5) ∧ ((rI l4) ∧ ((rI (u.1 (u.2 a 3) 0)) ∧ (if l4 < u.1 (u.2 a 3) 0 then (cL (d + 1) 197 [.ref a, iV l3, iV l4] u (fun r6 u5 => (cn 9000000000000000000 l1) ∧ ((cn 9000000000000000000 r6) ∧ (K_196 (d + 1) 18 [.ref a, lV (pl 9000000000000000000 l1 r6), .retAddr 0, iV l3, iV (l4 + 1)] [] u5 Q)))) else (K_196 (d + 1) 4 [.ref a, lV l1, .retAddr 0, iV (l3 + 1), .retAddr 0] [] u Q))))) : K_196 (d + 1) 18 [.ref a, lV l1, .retAddr 0, iV l3, iV l4] [] u Q := by
  unfold K_196
  refine u_ld (v := iV l4) (pc := 18) (dec_at lsk_196 (k := 11) rfl) rfl ?_
  refine u_ld (v := .ref a) (pc := 20) (dec_at lsk_196 (k := 12) rfl) rfl ?_
  refine u_gR (z := 3) (pc := 21) (dec_at lsk_196 (k := 13) rfl) f_9_25 hOa rfl rfl ?_
  have g1 := h.1
  have h := h.2
  refine u_gI (z := 0) (pc := 24) (dec_at lsk_196 (k := 14) rfl) f_9_66 g1 rfl rfl ?_
  have g2 := h.1
  have h := h.2
  have g3 := h.1
  have h := h.2
  refine u_icF (pc := 27) (tgt := 48) (dec_at lsk_196 (k := 15) rfl) rfl (ci_ge g2 g3) (fun e4 => ?_) (fun e4 => ?_)
  · have h := ifT e4 h
    refine u_ld (v := lV l1) (pc := 30) (dec_at lsk_196 (k := 16) rfl) rfl ?_
    refine u_ld (v := .ref a) (pc := 31) (dec_at lsk_196 (k := 17) rfl) rfl ?_
    refine u_ld (v := iV l3) (pc := 32) (dec_at lsk_196 (k := 18) rfl) rfl ?_
    refine u_ld (v := iV l4) (pc := 33) (dec_at lsk_196 (k := 19) rfl) rfl ?_
    refine u_cvL (As := [iV l3, iV l4]) (rb := a) (st2 := [lV l1]) (pc := 35) (dec_at lsk_196 (k := 20) rfl) m_9_125 (Or.inl rfl) rfl (Nat.le_of_ble_eq_true rfl) hOa me_197 rfl h (fun r6 u5 h => ?_)
    have g7 := h.1
    have h := h.2
    have g8 := h.1
    have h := h.2
    refine u_csL (As := [lV l1, lV r6]) (st2 := []) (pc := 38) (dec_at lsk_196 (k := 21) rfl) m_9_129 (Or.inr rfl) rfl (Nat.le_of_ble_eq_true rfl) (p_51 g7 g8) (fun r_ u_ h_ => ?_)
    rw [h_.1, h_.2]
    refine u_sto (lv' := [.ref a, lV (pl 9000000000000000000 l1 r6), .retAddr 0, iV l3, iV l4]) (pc := 41) (dec_at lsk_196 (k := 22) rfl) rfl ?_
    refine u_inc (lv' := [.ref a, lV (pl 9000000000000000000 l1 r6), .retAddr 0, iV l3, iV (l4 + 1)]) (pc := 42) (dec_at lsk_196 (k := 23) rfl) rfl (by decide) rfl ?_
    refine u_goto (pc := 45) (tgt := 18) (dec_at lsk_196 (k := 24) rfl) rfl ?_
    exact h
  · have h := ifF e4 h
    refine u_inc (lv' := [.ref a, lV l1, .retAddr 0, iV (l3 + 1), iV l4]) (pc := 48) (dec_at lsk_196 (k := 25) rfl) rfl (by decide) rfl ?_
    refine u_goto (pc := 51) (tgt := 4) (dec_at lsk_196 (k := 26) rfl) rfl ?_
    exact u_weak (sbK (sbK (sbK (sbK (sbD sb0))))) h
/-- method 197 -/
def K_197 (d pc : Nat) (lv : ev_L) (st : List Value) (u : uS) (Q : Int → uS → Prop) : Prop := okU d 9 6 false (some .long) prog_8_method_11_code (qL Q) pc lv st u
theorem e_197 {d : Nat} {Q : Int → uS → Prop} {u : uS} {a : Nat} {l1 l2 : Int} (hOa : isO a 9) (h : ∀ u1 : uS, u1 = fil u (a + 17) 0 40 0 → ((0 ≤ l2) ∧ ((l2 < 40) ∧ (∀ u5 : uS, u5 = wr u1 (a + 17) l2 1 → (K_197 (d + 1) 17 [.ref a, iV l1, .retAddr 0, iV 0, .retAddr 0, .retAddr 0] [] u5 Q))))) : cL (d + 2) 197 [.ref a, iV l1, iV l2] u Q := by
  refine u_of me_197 (Nat.le_of_ble_eq_true rfl) ?_
  refine u_ld (v := .ref a) (pc := 0) (dec_at lsk_197 (k := 0) rfl) rfl ?_
  refine u_gS (o := 17) (p := a + 17) (pc := 1) (dec_at lsk_197 (k := 1) rfl) f_9_43 hOa rfl rfl ?_
  refine u_cl (x := 0) (pc := 4) (dec_at lsk_197 (k := 2) rfl) rfl (by decide) ?_
  refine u_csV (As := [.ref (a + 17), lV 0]) (st2 := []) (pc := 5) (dec_at lsk_197 (k := 3) rfl) m_9_53 (Or.inl rfl) rfl (Nat.le_of_ble_eq_true rfl) (q_49 (sa_9_10 hOa)) (fun u1 e2 => ?_)
  have h := h u1 e2
  refine u_ld (v := .ref a) (pc := 8) (dec_at lsk_197 (k := 4) rfl) rfl ?_
  refine u_gS (o := 17) (p := a + 17) (pc := 9) (dec_at lsk_197 (k := 5) rfl) f_9_43 hOa rfl rfl ?_
  refine u_ld (v := iV l2) (pc := 12) (dec_at lsk_197 (k := 6) rfl) rfl ?_
  refine u_cl (x := 1) (pc := 13) (dec_at lsk_197 (k := 7) rfl) rfl (by decide) ?_
  have g3 := h.1
  have h := h.2
  have g4 := h.1
  have h := h.2
  refine u_last (pc := 14) (dec_at lsk_197 (k := 8) rfl) (sa_9_10 hOa) g3 g4 (fun u5 e6 => ?_)
  have h := h u5 e6
  refine u_ld (v := iV 0) (pc := 15) (dec_at lsk_197 (k := 9) rfl) rfl ?_
  refine u_sto (lv' := [.ref a, iV l1, iV l2, iV 0, .retAddr 0, .retAddr 0]) (pc := 16) (dec_at lsk_197 (k := 10) rfl) rfl ?_
  exact u_weak (sbK (sbK (sbD (sbK (sbK (sbK sb0)))))) h
theorem k_197_17 {d : Nat} {Q : Int → uS → Prop} {u : uS} {a : Nat} {l1 l3 : Int} (hOa : isO a 9) (h : (isO (u.2 a 2) 2) ∧ ((0 ≤ l1) ∧ ((l1 < 30) ∧ ((rI l3) ∧ ((rI (u.1 ((u.2 a 2) + 3) l1)) ∧ (if l3 < u.1 ((u.2 a 2) + 3) l1 then (∀ u7 : uS, u7 = fil u (a + 18) 0 40 0 → (K_197 (d + 1) 41 [.ref a, iV l1, .retAddr 0, iV l3, iV 0, .retAddr 0] [] u7 Q)) else (K_197 (d + 1) 117 [.ref a, .retAddr 0, .retAddr 0, lV 0, .retAddr 0, iV 0] [] u Q))))))) : K_197 (d + 1) 17 [.ref a, iV l1, .retAddr 0, iV l3, .retAddr 0, .retAddr 0] [] u Q := by
  unfold K_197
  refine u_ld (v := iV l3) (pc := 17) (dec_at lsk_197 (k := 11) rfl) rfl ?_
  refine u_ld (v := .ref a) (pc := 18) (dec_at lsk_197 (k := 12) rfl) rfl ?_
  refine u_gR (z := 2) (pc := 19) (dec_at lsk_197 (k := 13) rfl) f_9_18 hOa rfl rfl ?_
  have g1 := h.1
  have h := h.2
  refine u_gS (o := 3) (p := (u.2 a 2) + 3) (pc := 22) (dec_at lsk_197 (k := 14) rfl) f_9_80 g1 rfl rfl ?_
  refine u_ld (v := iV l1) (pc := 25) (dec_at lsk_197 (k := 15) rfl) rfl ?_
  have g2 := h.1
  have h := h.2
  have g3 := h.1
  have h := h.2
  refine u_iald (pc := 26) (dec_at lsk_197 (k := 16) rfl) (sa_2_4 g1) g2 g3 ?_
  have g4 := h.1
  have h := h.2
  have g5 := h.1
  have h := h.2
  refine u_icF (pc := 27) (tgt := 112) (dec_at lsk_197 (k := 17) rfl) rfl (ci_ge g4 g5) (fun e6 => ?_) (fun e6 => ?_)
  · have h := ifT e6 h
    refine u_ld (v := .ref a) (pc := 30) (dec_at lsk_197 (k := 18) rfl) rfl ?_
    refine u_gS (o := 18) (p := a + 18) (pc := 31) (dec_at lsk_197 (k := 19) rfl) f_9_46 hOa rfl rfl ?_
    refine u_cl (x := 0) (pc := 34) (dec_at lsk_197 (k := 20) rfl) rfl (by decide) ?_
    refine u_csV (As := [.ref (a + 18), lV 0]) (st2 := []) (pc := 35) (dec_at lsk_197 (k := 21) rfl) m_9_53 (Or.inl rfl) rfl (Nat.le_of_ble_eq_true rfl) (q_49 (sa_9_11 hOa)) (fun u7 e8 => ?_)
    have h := h u7 e8
    refine u_ld (v := iV 0) (pc := 38) (dec_at lsk_197 (k := 22) rfl) rfl ?_
    refine u_sto (lv' := [.ref a, iV l1, .retAddr 0, iV l3, iV 0, .retAddr 0]) (pc := 39) (dec_at lsk_197 (k := 23) rfl) rfl ?_
    exact h
  · have h := ifF e6 h
    refine u_cl (x := 0) (pc := 112) (dec_at lsk_197 (k := 58) rfl) rfl (by decide) ?_
    refine u_sto (lv' := [.ref a, iV l1, .retAddr 0, lV 0, .retAddr 0, .retAddr 0]) (pc := 113) (dec_at lsk_197 (k := 59) rfl) rfl ?_
    refine u_ld (v := iV 0) (pc := 114) (dec_at lsk_197 (k := 60) rfl) rfl ?_
    refine u_sto (lv' := [.ref a, iV l1, .retAddr 0, lV 0, .retAddr 0, iV 0]) (pc := 115) (dec_at lsk_197 (k := 61) rfl) rfl ?_
    exact u_weak (sbK (sbD (sbK (sbK (sbK (sbK sb0)))))) h
theorem k_197_41 {d : Nat} {Q : Int → uS → Prop} {u : uS} {a : Nat} {l1 l3 l4 : Int} (hOa : isO a 9) (h : (isO (u.2 a 3) 5) ∧ ((rI l4) ∧ ((rI (u.1 (u.2 a 3) 0)) ∧ (if l4 < u.1 (u.2 a 3) 0 then ((0 ≤ l4) ∧ ((l4 < 40) ∧ ((rL (u.1 (a + 17) l4)) ∧ (if u.1 (a + 17) l4 = 0 then (K_197 (d + 1) 41 [.ref a, iV l1, .retAddr 0, iV l3, iV (l4 + 1), .retAddr 0] [] u Q) else ((isO (u.2 a 2) 2) ∧ ((0 ≤ (l1 * 6) + l3) ∧ (((l1 * 6) + l3 < 180) ∧ (cV (d + 1) 198 [.ref a, iV (u.1 ((u.2 a 2) + 4) ((l1 * 6) + l3)), iV l4] u (fun u12 => K_197 (d + 1) 41 [.ref a, iV l1, .retAddr 0, iV l3, iV (l4 + 1), .retAddr 0] [] u12 Q))))))))) else ((0 ≤ u.1 (u.2 a 3) 0) ∧ ((0 + (u.1 (u.2 a 3) 0) ≤ 40) ∧ (∀ u15 : uS, u15 = cpy u (a + 18) 0 (a + 17) 0 (u.1 (u.2 a 3) 0) → (K_197 (d + 1) 17 [.ref a, iV l1, .retAddr 0, iV (l3 + 1), .retAddr 0, .retAddr 0] [] u15 Q)))))))) : K_197 (d + 1) 41 [.ref a, iV l1, .retAddr 0, iV l3, iV l4, .retAddr 0] [] u Q := by
  unfold K_197
  refine u_ld (v := iV l4) (pc := 41) (dec_at lsk_197 (k := 24) rfl) rfl ?_
  refine u_ld (v := .ref a) (pc := 43) (dec_at lsk_197 (k := 25) rfl) rfl ?_
  refine u_gR (z := 3) (pc := 44) (dec_at lsk_197 (k := 26) rfl) f_9_25 hOa rfl rfl ?_
  have g1 := h.1
  have h := h.2
  refine u_gI (z := 0) (pc := 47) (dec_at lsk_197 (k := 27) rfl) f_9_66 g1 rfl rfl ?_
  have g2 := h.1
  have h := h.2
  have g3 := h.1
  have h := h.2
  refine u_icF (pc := 50) (tgt := 86) (dec_at lsk_197 (k := 28) rfl) rfl (ci_ge g2 g3) (fun e4 => ?_) (fun e4 => ?_)
  · have h := ifT e4 h
    refine u_ld (v := .ref a) (pc := 53) (dec_at lsk_197 (k := 29) rfl) rfl ?_
    refine u_gS (o := 17) (p := a + 17) (pc := 54) (dec_at lsk_197 (k := 30) rfl) f_9_43 hOa rfl rfl ?_
    refine u_ld (v := iV l4) (pc := 57) (dec_at lsk_197 (k := 31) rfl) rfl ?_
    have g5 := h.1
    have h := h.2
    have g6 := h.1
    have h := h.2
    refine u_lald (pc := 59) (dec_at lsk_197 (k := 32) rfl) (sa_9_10 hOa) g5 g6 ?_
    refine u_cl (x := 0) (pc := 60) (dec_at lsk_197 (k := 33) rfl) rfl (by decide) ?_
    refine u_st (st' := [.int (lg_cmp (Int64.ofInt (u.1 (a + 17) l4)) (Int64.ofInt 0))]) (pc := 61) (dec_at lsk_197 (k := 34) rfl) rfl ?_
    have g7 := h.1
    have h := h.2
    refine u_ifT (pc := 62) (tgt := 80) (dec_at lsk_197 (k := 35) rfl) rfl (cl_eq g7 (by decide)) (fun e8 => ?_) (fun e8 => ?_)
    · have h := ifT e8 h
      refine u_inc (lv' := [.ref a, iV l1, .retAddr 0, iV l3, iV (l4 + 1), .retAddr 0]) (pc := 80) (dec_at lsk_197 (k := 44) rfl) rfl (by decide) rfl ?_
      refine u_goto (pc := 83) (tgt := 41) (dec_at lsk_197 (k := 45) rfl) rfl ?_
      exact h
    · have h := ifF e8 h
      refine u_ld (v := .ref a) (pc := 65) (dec_at lsk_197 (k := 36) rfl) rfl ?_
      refine u_ld (v := .ref a) (pc := 66) (dec_at lsk_197 (k := 37) rfl) rfl ?_
      refine u_gR (z := 2) (pc := 67) (dec_at lsk_197 (k := 38) rfl) f_9_18 hOa rfl rfl ?_
      refine u_ld (v := iV l1) (pc := 70) (dec_at lsk_197 (k := 39) rfl) rfl ?_
      refine u_ld (v := iV l3) (pc := 71) (dec_at lsk_197 (k := 40) rfl) rfl ?_
      have g9 := h.1
      have h := h.2
      refine u_cvI (As := [iV l1, iV l3]) (rb := u.2 a 2) (st2 := [.ref a]) (pc := 72) (dec_at lsk_197 (k := 41) rfl) m_9_112 (Or.inl rfl) rfl (Nat.le_of_ble_eq_true rfl) g9 me_42 rfl ?_ (fun _ _ h_ => h_)
      refine u_of me_42 (Nat.le_of_ble_eq_true rfl) ?_
      refine u_ld (v := .ref (u.2 a 2)) (pc := 0) (dec_at lsk_42 (k := 0) rfl) rfl ?_
      refine u_gS (o := 4) (p := (u.2 a 2) + 4) (pc := 1) (dec_at lsk_42 (k := 1) rfl) f_2_21 g9 rfl rfl ?_
      refine u_ld (v := iV l1) (pc := 4) (dec_at lsk_42 (k := 2) rfl) rfl ?_
      refine u_c (x := 6) (pc := 5) (dec_at lsk_42 (k := 3) rfl) rfl (by decide) ?_
      refine u_imul (pc := 7) (dec_at lsk_42 (k := 4) rfl) ?_
      refine u_ld (v := iV l3) (pc := 8) (dec_at lsk_42 (k := 5) rfl) rfl ?_
      refine u_iadd (pc := 9) (dec_at lsk_42 (k := 6) rfl) ?_
      have g10 := h.1
      have h := h.2
      have g11 := h.1
      have h := h.2
      refine u_iald (pc := 10) (dec_at lsk_42 (k := 7) rfl) (sa_2_5 g9) g10 g11 ?_
      refine u_rI (pc := 11) (dec_at lsk_42 (k := 8) rfl) rfl ?_
      refine u_ld (v := iV l4) (pc := 75) (dec_at lsk_197 (k := 42) rfl) rfl ?_
      refine u_cvV (As := [iV (u.1 ((u.2 a 2) + 4) ((l1 * 6) + l3)), iV l4]) (rb := a) (st2 := []) (pc := 77) (dec_at lsk_197 (k := 43) rfl) m_9_133 (Or.inl rfl) rfl (Nat.le_of_ble_eq_true rfl) hOa me_198 rfl h (fun u12 h => ?_)
      refine u_inc (lv' := [.ref a, iV l1, .retAddr 0, iV l3, iV (l4 + 1), .retAddr 0]) (pc := 80) (dec_at lsk_197 (k := 44) rfl) rfl (by decide) rfl ?_
      refine u_goto (pc := 83) (tgt := 41) (dec_at lsk_197 (k := 45) rfl) rfl ?_
      exact h
  · have h := ifF e4 h
    refine u_ld (v := .ref a) (pc := 86) (dec_at lsk_197 (k := 46) rfl) rfl ?_
    refine u_gS (o := 18) (p := a + 18) (pc := 87) (dec_at lsk_197 (k := 47) rfl) f_9_46 hOa rfl rfl ?_
    refine u_ld (v := iV 0) (pc := 90) (dec_at lsk_197 (k := 48) rfl) rfl ?_
    refine u_ld (v := .ref a) (pc := 91) (dec_at lsk_197 (k := 49) rfl) rfl ?_
    refine u_gS (o := 17) (p := a + 17) (pc := 92) (dec_at lsk_197 (k := 50) rfl) f_9_43 hOa rfl rfl ?_
    refine u_ld (v := iV 0) (pc := 95) (dec_at lsk_197 (k := 51) rfl) rfl ?_
    refine u_ld (v := .ref a) (pc := 96) (dec_at lsk_197 (k := 52) rfl) rfl ?_
    refine u_gR (z := 3) (pc := 97) (dec_at lsk_197 (k := 53) rfl) f_9_25 hOa rfl rfl ?_
    refine u_gI (z := 0) (pc := 100) (dec_at lsk_197 (k := 54) rfl) f_9_66 g1 rfl rfl ?_
    have g13 := h.1
    have h := h.2
    have g14 := h.1
    have h := h.2
    refine u_cpyL (pc := 103) (dec_at lsk_197 (k := 55) rfl) m_9_137 (sa_9_11 hOa) (sa_9_10 hOa) (by decide) (by decide) g13 g14 g14 (Nat.le_of_ble_eq_true rfl) (fun u15 e16 => ?_)
    have h := h u15 e16
    refine u_inc (lv' := [.ref a, iV l1, .retAddr 0, iV (l3 + 1), iV l4, .retAddr 0]) (pc := 106) (dec_at lsk_197 (k := 56) rfl) rfl (by decide) rfl ?_
    refine u_goto (pc := 109) (tgt := 17) (dec_at lsk_197 (k := 57) rfl) rfl ?_
    exact u_weak (sbK (sbK (sbK (sbK (sbD (sbK sb0)))))) h
theorem k_197_117 {d : Nat} {Q : Int → uS → Prop} {u : uS} {a : Nat} {l3 l5 : Int} (hOa : isO a 9) (h : (isO (u.2 a 3) 5) ∧ ((rI l5) ∧ ((rI (u.1 (u.2 a 3) 0)) ∧ (if l5 < u.1 (u.2 a 3) 0 then ((0 ≤ l5) ∧ ((l5 < 40) ∧ ((cn 9000000000000000000 l3) ∧ ((cn 9000000000000000000 (u.1 (a + 17) l5)) ∧ (K_197 (d + 1) 117 [.ref a, .retAddr 0, .retAddr 0, lV (pl 9000000000000000000 l3 (u.1 (a + 17) l5)), .retAddr 0, iV (l5 + 1)] [] u Q))))) else (Q l3 u))))) : K_197 (d + 1) 117 [.ref a, .retAddr 0, .retAddr 0, lV l3, .retAddr 0, iV l5] [] u Q := by
  unfold K_197
  refine u_ld (v := iV l5) (pc := 117) (dec_at lsk_197 (k := 62) rfl) rfl ?_
  refine u_ld (v := .ref a) (pc := 119) (dec_at lsk_197 (k := 63) rfl) rfl ?_
  refine u_gR (z := 3) (pc := 120) (dec_at lsk_197 (k := 64) rfl) f_9_25 hOa rfl rfl ?_
  have g1 := h.1
  have h := h.2
  refine u_gI (z := 0) (pc := 123) (dec_at lsk_197 (k := 65) rfl) f_9_66 g1 rfl rfl ?_
  have g2 := h.1
  have h := h.2
  have g3 := h.1
  have h := h.2
  refine u_icF (pc := 126) (tgt := 147) (dec_at lsk_197 (k := 66) rfl) rfl (ci_ge g2 g3) (fun e4 => ?_) (fun e4 => ?_)
  · have h := ifT e4 h
    refine u_ld (v := lV l3) (pc := 129) (dec_at lsk_197 (k := 67) rfl) rfl ?_
    refine u_ld (v := .ref a) (pc := 130) (dec_at lsk_197 (k := 68) rfl) rfl ?_
    refine u_gS (o := 17) (p := a + 17) (pc := 131) (dec_at lsk_197 (k := 69) rfl) f_9_43 hOa rfl rfl ?_
    refine u_ld (v := iV l5) (pc := 134) (dec_at lsk_197 (k := 70) rfl) rfl ?_
    have g5 := h.1
    have h := h.2
    have g6 := h.1
    have h := h.2
    refine u_lald (pc := 136) (dec_at lsk_197 (k := 71) rfl) (sa_9_10 hOa) g5 g6 ?_
    have g7 := h.1
    have h := h.2
    have g8 := h.1
    have h := h.2
    refine u_csL (As := [lV l3, lV (u.1 (a + 17) l5)]) (st2 := []) (pc := 137) (dec_at lsk_197 (k := 72) rfl) m_9_129 (Or.inr rfl) rfl (Nat.le_of_ble_eq_true rfl) (p_51 g7 g8) (fun r_ u_ h_ => ?_)
    rw [h_.1, h_.2]
    refine u_sto (lv' := [.ref a, .retAddr 0, .retAddr 0, lV (pl 9000000000000000000 l3 (u.1 (a + 17) l5)), .retAddr 0, iV l5]) (pc := 140) (dec_at lsk_197 (k := 73) rfl) rfl ?_
    refine u_inc (lv' := [.ref a, .retAddr 0, .retAddr 0, lV (pl 9000000000000000000 l3 (u.1 (a + 17) l5)), .retAddr 0, iV (l5 + 1)]) (pc := 141) (dec_at lsk_197 (k := 74) rfl) rfl (by decide) rfl ?_
    refine u_goto (pc := 144) (tgt := 117) (dec_at lsk_197 (k := 75) rfl) rfl ?_
    exact h
  · have h := ifF e4 h
    refine u_ld (v := lV l3) (pc := 147) (dec_at lsk_197 (k := 76) rfl) rfl ?_
    exact u_rL (pc := 148) (dec_at lsk_197 (k := 77) rfl) rfl h
/-- method 198 -/
def K_198 (d pc : Nat) (lv : ev_L) (st : List Value) (u : uS) (Q : uS → Prop) : Prop := okU d 9 8 false none prog_8_method_12_code (qV Q) pc lv st u
theorem e_198 {d : Nat} {Q : uS → Prop} {u : uS} {a : Nat} {l1 l2 : Int} (hOa : isO a 9) (h : (rI l1) ∧ (if l1 < 100 then ((isO (u.2 a 3) 5) ∧ ((0 ≤ (l2 * 10) + l1) ∧ (((l2 * 10) + l1 < 400) ∧ (K_198 (d + 2) 37 [.ref a, .retAddr 0, iV l2, .retAddr 0, .retAddr 0, lV (lshl 1 (u.1 ((u.2 a 3) + 1) ((l2 * 10) + l1))), .retAddr 0, .retAddr 0] [] u Q)))) else ((0 ≤ ((l1 - 100) * 40) + l2) ∧ ((((l1 - 100) * 40) + l2 < 400) ∧ (K_198 (d + 2) 37 [.ref a, .retAddr 0, iV l2, .retAddr 0, .retAddr 0, lV (u.1 (a + 1) (((l1 - 100) * 40) + l2)), .retAddr 0, .retAddr 0] [] u Q))))) : cV (d + 3) 198 [.ref a, iV l1, iV l2] u Q := by
  refine u_of me_198 (Nat.le_of_ble_eq_true rfl) ?_
  refine u_ld (v := iV l1) (pc := 0) (dec_at lsk_198 (k := 0) rfl) rfl ?_
  refine u_c (x := 100) (pc := 1) (dec_at lsk_198 (k := 1) rfl) rfl (by decide) ?_
  have g1 := h.1
  have h := h.2
  refine u_icF (pc := 3) (tgt := 20) (dec_at lsk_198 (k := 2) rfl) rfl (ci_ge g1 (by decide)) (fun e2 => ?_) (fun e2 => ?_)
  · have h := ifT e2 h
    refine u_cl (x := 1) (pc := 6) (dec_at lsk_198 (k := 3) rfl) rfl (by decide) ?_
    refine u_ld (v := .ref a) (pc := 7) (dec_at lsk_198 (k := 4) rfl) rfl ?_
    refine u_gR (z := 3) (pc := 8) (dec_at lsk_198 (k := 5) rfl) f_9_25 hOa rfl rfl ?_
    refine u_ld (v := iV l2) (pc := 11) (dec_at lsk_198 (k := 6) rfl) rfl ?_
    refine u_ld (v := iV l1) (pc := 12) (dec_at lsk_198 (k := 7) rfl) rfl ?_
    have g3 := h.1
    have h := h.2
    refine u_cvI (As := [iV l2, iV l1]) (rb := u.2 a 3) (st2 := [lV 1]) (pc := 13) (dec_at lsk_198 (k := 8) rfl) m_9_122 (Or.inl rfl) rfl (Nat.le_of_ble_eq_true rfl) g3 me_75 rfl ?_ (fun _ _ h_ => h_)
    refine u_of me_75 (Nat.le_of_ble_eq_true rfl) ?_
    refine u_ld (v := .ref (u.2 a 3)) (pc := 0) (dec_at lsk_75 (k := 0) rfl) rfl ?_
    refine u_gS (o := 1) (p := (u.2 a 3) + 1) (pc := 1) (dec_at lsk_75 (k := 1) rfl) f_5_15 g3 rfl rfl ?_
    refine u_ld (v := iV l2) (pc := 4) (dec_at lsk_75 (k := 2) rfl) rfl ?_
    refine u_c (x := 10) (pc := 5) (dec_at lsk_75 (k := 3) rfl) rfl (by decide) ?_
    refine u_imul (pc := 7) (dec_at lsk_75 (k := 4) rfl) ?_
    refine u_ld (v := iV l1) (pc := 8) (dec_at lsk_75 (k := 5) rfl) rfl ?_
    refine u_iadd (pc := 9) (dec_at lsk_75 (k := 6) rfl) ?_
    have g4 := h.1
    have h := h.2
    have g5 := h.1
    have h := h.2
    refine u_iald (pc := 10) (dec_at lsk_75 (k := 7) rfl) (sa_5_2 g3) g4 g5 ?_
    refine u_rI (pc := 11) (dec_at lsk_75 (k := 8) rfl) rfl ?_
    refine u_lshl (pc := 16) (dec_at lsk_198 (k := 9) rfl) ?_
    refine u_goto (pc := 17) (tgt := 33) (dec_at lsk_198 (k := 10) rfl) rfl ?_
    refine u_sto (lv' := [.ref a, iV l1, iV l2, lV (lshl 1 (u.1 ((u.2 a 3) + 1) ((l2 * 10) + l1))), .retAddr 0, .retAddr 0, .retAddr 0, .retAddr 0]) (pc := 33) (dec_at lsk_198 (k := 19) rfl) rfl ?_
    refine u_ld (v := lV (lshl 1 (u.1 ((u.2 a 3) + 1) ((l2 * 10) + l1)))) (pc := 34) (dec_at lsk_198 (k := 20) rfl) rfl ?_
    refine u_sto (lv' := [.ref a, iV l1, iV l2, lV (lshl 1 (u.1 ((u.2 a 3) + 1) ((l2 * 10) + l1))), .retAddr 0, lV (lshl 1 (u.1 ((u.2 a 3) + 1) ((l2 * 10) + l1))), .retAddr 0, .retAddr 0]) (pc := 35) (dec_at lsk_198 (k := 21) rfl) rfl ?_
    exact u_weak (sbK (sbD (sbK (sbD (sbK (sbK (sbK (sbK sb0)))))))) h
  · have h := ifF e2 h
    refine u_ld (v := .ref a) (pc := 20) (dec_at lsk_198 (k := 11) rfl) rfl ?_
    refine u_gS (o := 1) (p := a + 1) (pc := 21) (dec_at lsk_198 (k := 12) rfl) f_9_11 hOa rfl rfl ?_
    refine u_ld (v := iV l1) (pc := 24) (dec_at lsk_198 (k := 13) rfl) rfl ?_
    refine u_c (x := 100) (pc := 25) (dec_at lsk_198 (k := 14) rfl) rfl (by decide) ?_
    refine u_isub (pc := 27) (dec_at lsk_198 (k := 15) rfl) ?_
    refine u_ld (v := iV l2) (pc := 28) (dec_at lsk_198 (k := 16) rfl) rfl ?_
    refine u_csI (As := [iV (l1 - 100), iV l2]) (st2 := [.ref (a + 1)]) (pc := 29) (dec_at lsk_198 (k := 17) rfl) m_9_72 (Or.inr rfl) rfl (Nat.le_of_ble_eq_true rfl) ?_ (fun _ _ h_ => h_)
    refine u_of me_141 (Nat.le_of_ble_eq_true rfl) ?_
    refine u_ld (v := iV (l1 - 100)) (pc := 0) (dec_at lsk_141 (k := 0) rfl) rfl ?_
    refine u_c (x := 40) (pc := 1) (dec_at lsk_141 (k := 1) rfl) rfl (by decide) ?_
    refine u_imul (pc := 3) (dec_at lsk_141 (k := 2) rfl) ?_
    refine u_ld (v := iV l2) (pc := 4) (dec_at lsk_141 (k := 3) rfl) rfl ?_
    refine u_iadd (pc := 5) (dec_at lsk_141 (k := 4) rfl) ?_
    refine u_rI (pc := 6) (dec_at lsk_141 (k := 5) rfl) rfl ?_
    have g6 := h.1
    have h := h.2
    have g7 := h.1
    have h := h.2
    refine u_lald (pc := 32) (dec_at lsk_198 (k := 18) rfl) (sa_9_1 hOa) g6 g7 ?_
    refine u_sto (lv' := [.ref a, iV l1, iV l2, lV (u.1 (a + 1) (((l1 - 100) * 40) + l2)), .retAddr 0, .retAddr 0, .retAddr 0, .retAddr 0]) (pc := 33) (dec_at lsk_198 (k := 19) rfl) rfl ?_
    refine u_ld (v := lV (u.1 (a + 1) (((l1 - 100) * 40) + l2))) (pc := 34) (dec_at lsk_198 (k := 20) rfl) rfl ?_
    refine u_sto (lv' := [.ref a, iV l1, iV l2, lV (u.1 (a + 1) (((l1 - 100) * 40) + l2)), .retAddr 0, lV (u.1 (a + 1) (((l1 - 100) * 40) + l2)), .retAddr 0, .retAddr 0]) (pc := 35) (dec_at lsk_198 (k := 21) rfl) rfl ?_
    exact u_weak (sbK (sbD (sbK (sbD (sbK (sbK (sbK (sbK sb0)))))))) h
theorem k_198_37 {d : Nat} {Q : uS → Prop} {u : uS} {a : Nat} {l2 l5 : Int} (hOa : isO a 9) (h : (rL l5) ∧ (if l5 = 0 then (Q u) else ((0 ≤ ntz l5) ∧ ((ntz l5 < 40) ∧ ((0 ≤ l2) ∧ ((l2 < 40) ∧ ((cn 9000000000000000000 (u.1 (a + 18) (ntz l5))) ∧ ((cn 9000000000000000000 (u.1 (a + 17) l2)) ∧ (∀ u9 : uS, u9 = wr u (a + 18) (ntz l5) (pl 9000000000000000000 (u.1 (a + 18) (ntz l5)) (u.1 (a + 17) l2)) → (K_198 (d + 2) 37 [.ref a, .retAddr 0, iV l2, .retAddr 0, .retAddr 0, lV (land l5 (l5 - 1)), .retAddr 0, .retAddr 0] [] u9 Q)))))))))) : K_198 (d + 2) 37 [.ref a, .retAddr 0, iV l2, .retAddr 0, .retAddr 0, lV l5, .retAddr 0, .retAddr 0] [] u Q := by
  unfold K_198
  refine u_ld (v := lV l5) (pc := 37) (dec_at lsk_198 (k := 22) rfl) rfl ?_
  refine u_cl (x := 0) (pc := 39) (dec_at lsk_198 (k := 23) rfl) rfl (by decide) ?_
  refine u_st (st' := [.int (lg_cmp (Int64.ofInt l5) (Int64.ofInt 0))]) (pc := 40) (dec_at lsk_198 (k := 24) rfl) rfl ?_
  have g1 := h.1
  have h := h.2
  refine u_ifT (pc := 41) (tgt := 86) (dec_at lsk_198 (k := 25) rfl) rfl (cl_eq g1 (by decide)) (fun e2 => ?_) (fun e2 => ?_)
  · have h := ifT e2 h
    exact u_rV (pc := 86) (dec_at lsk_198 (k := 49) rfl) rfl h
  · have h := ifF e2 h
    refine u_ld (v := lV l5) (pc := 44) (dec_at lsk_198 (k := 26) rfl) rfl ?_
    refine u_csI (As := [lV l5]) (st2 := []) (pc := 46) (dec_at lsk_198 (k := 27) rfl) m_9_115 (Or.inl rfl) rfl (Nat.le_of_ble_eq_true rfl) (p_77 ) (fun r_ u_ h_ => ?_)
    rw [h_.1, h_.2]
    refine u_sto (lv' := [.ref a, .retAddr 0, iV l2, .retAddr 0, .retAddr 0, lV l5, .retAddr 0, iV (ntz l5)]) (pc := 49) (dec_at lsk_198 (k := 28) rfl) rfl ?_
    refine u_ld (v := .ref a) (pc := 51) (dec_at lsk_198 (k := 29) rfl) rfl ?_
    refine u_gS (o := 18) (p := a + 18) (pc := 52) (dec_at lsk_198 (k := 30) rfl) f_9_46 hOa rfl rfl ?_
    refine u_ld (v := iV (ntz l5)) (pc := 55) (dec_at lsk_198 (k := 31) rfl) rfl ?_
    refine u_ld (v := .ref a) (pc := 57) (dec_at lsk_198 (k := 32) rfl) rfl ?_
    refine u_gS (o := 18) (p := a + 18) (pc := 58) (dec_at lsk_198 (k := 33) rfl) f_9_46 hOa rfl rfl ?_
    refine u_ld (v := iV (ntz l5)) (pc := 61) (dec_at lsk_198 (k := 34) rfl) rfl ?_
    have g3 := h.1
    have h := h.2
    have g4 := h.1
    have h := h.2
    refine u_lald (pc := 63) (dec_at lsk_198 (k := 35) rfl) (sa_9_11 hOa) g3 g4 ?_
    refine u_ld (v := .ref a) (pc := 64) (dec_at lsk_198 (k := 36) rfl) rfl ?_
    refine u_gS (o := 17) (p := a + 17) (pc := 65) (dec_at lsk_198 (k := 37) rfl) f_9_43 hOa rfl rfl ?_
    refine u_ld (v := iV l2) (pc := 68) (dec_at lsk_198 (k := 38) rfl) rfl ?_
    have g5 := h.1
    have h := h.2
    have g6 := h.1
    have h := h.2
    refine u_lald (pc := 69) (dec_at lsk_198 (k := 39) rfl) (sa_9_10 hOa) g5 g6 ?_
    have g7 := h.1
    have h := h.2
    have g8 := h.1
    have h := h.2
    refine u_csL (As := [lV (u.1 (a + 18) (ntz l5)), lV (u.1 (a + 17) l2)]) (st2 := [iV (ntz l5), .ref (a + 18)]) (pc := 70) (dec_at lsk_198 (k := 40) rfl) m_9_129 (Or.inr rfl) rfl (Nat.le_of_ble_eq_true rfl) (p_51 g7 g8) (fun r_ u_ h_ => ?_)
    rw [h_.1, h_.2]
    refine u_last (pc := 73) (dec_at lsk_198 (k := 41) rfl) (sa_9_11 hOa) g3 g4 (fun u9 e10 => ?_)
    have h := h u9 e10
    refine u_ld (v := lV l5) (pc := 74) (dec_at lsk_198 (k := 42) rfl) rfl ?_
    refine u_ld (v := lV l5) (pc := 76) (dec_at lsk_198 (k := 43) rfl) rfl ?_
    refine u_cl (x := 1) (pc := 78) (dec_at lsk_198 (k := 44) rfl) rfl (by decide) ?_
    refine u_lsub (pc := 79) (dec_at lsk_198 (k := 45) rfl) ?_
    refine u_land (pc := 80) (dec_at lsk_198 (k := 46) rfl) ?_
    refine u_sto (lv' := [.ref a, .retAddr 0, iV l2, .retAddr 0, .retAddr 0, lV (land l5 (l5 - 1)), .retAddr 0, iV (ntz l5)]) (pc := 81) (dec_at lsk_198 (k := 47) rfl) rfl ?_
    refine u_goto (pc := 83) (tgt := 37) (dec_at lsk_198 (k := 48) rfl) rfl ?_
    exact u_weak (sbK (sbK (sbK (sbK (sbK (sbK (sbK (sbD sb0)))))))) h
