/-! Conditions (wip/tools/gen_k.py) -/
/-- method 69 -/
def K_69 (d pc : Nat) (lv : ev_L) (st : List Value) (u : uS) (Q : Int → uS → Prop) : Prop := okU d 7 6 false (some .boolean) prog_6_method_2_code (qI Q) pc lv st u
theorem e_69 {d : Nat} {Q : Int → uS → Prop} {u : uS} {l2 l3 l4 : Nat} {l1 : Int} (hOl2 : isO l2 5) (hOl3 : isO l3 5) (hOl4 : isO l4 5) (h : ∀ u1 : uS, u1 = wr u 64 0 l1 → (∀ u3 : uS, u3 = wq u1 64 1 l2 → (∀ u5 : uS, u5 = wq u3 64 2 l3 → (∀ u7 : uS, u7 = wr u5 64 4 0 → (cV d 70 [.ref 64] u7 (fun u9 => (rI (u9.1 64 4)) ∧ (if u9.1 64 4 = 0 then (cV d 79 [.ref 64] u9 (fun u12 => (rI (u12.1 64 4)) ∧ (if u12.1 64 4 = 0 then (cV d 85 [.ref 64, .ref l4] u12 (fun u15 => K_69 d 51 [.ref 64, .retAddr 0, .retAddr 0, .retAddr 0, .retAddr 0, iV 0] [] u15 Q)) else (K_69 d 51 [.ref 64, .retAddr 0, .retAddr 0, .retAddr 0, .retAddr 0, iV 0] [] u12 Q)))) else (K_69 d 51 [.ref 64, .retAddr 0, .retAddr 0, .retAddr 0, .retAddr 0, iV 0] [] u9 Q)))))))) : cI (d + 1) 69 [.ref 64, iV l1, .ref l2, .ref l3, .ref l4] u Q := by
  refine u_of me_69 (Nat.le_of_ble_eq_true rfl) ?_
  refine u_ld (v := .ref 64) (pc := 0) (dec_at lsk_69 (k := 0) rfl) rfl ?_
  refine u_ld (v := iV l1) (pc := 1) (dec_at lsk_69 (k := 1) rfl) rfl ?_
  refine u_pI (z := 0) (pc := 2) (dec_at lsk_69 (k := 2) rfl) f_7_57 sx_64 rfl rfl rfl rfl (fun u1 e2 => ?_)
  have h := h u1 e2
  refine u_ld (v := .ref 64) (pc := 5) (dec_at lsk_69 (k := 3) rfl) rfl ?_
  refine u_ld (v := .ref l2) (pc := 6) (dec_at lsk_69 (k := 4) rfl) rfl ?_
  refine u_pR (z := 1) (pc := 7) (dec_at lsk_69 (k := 5) rfl) f_7_12 sx_64 rfl rfl rfl rfl rfl (fun u3 e4 => ?_)
  have h := h u3 e4
  refine u_ld (v := .ref 64) (pc := 10) (dec_at lsk_69 (k := 6) rfl) rfl ?_
  refine u_ld (v := .ref l3) (pc := 11) (dec_at lsk_69 (k := 7) rfl) rfl ?_
  refine u_pR (z := 2) (pc := 12) (dec_at lsk_69 (k := 8) rfl) f_7_18 sx_64 rfl rfl rfl rfl rfl (fun u5 e6 => ?_)
  have h := h u5 e6
  refine u_ld (v := .ref 64) (pc := 15) (dec_at lsk_69 (k := 9) rfl) rfl ?_
  refine u_ld (v := iV 0) (pc := 16) (dec_at lsk_69 (k := 10) rfl) rfl ?_
  refine u_pZ (z := 4) (pc := 17) (dec_at lsk_69 (k := 11) rfl) f_7_61 sx_64 rfl rfl rfl rfl (by decide) (fun u7 e8 => ?_)
  have h := h u7 e8
  refine u_ld (v := .ref 64) (pc := 20) (dec_at lsk_69 (k := 12) rfl) rfl ?_
  refine u_cvV (As := []) (rb := 64) (st2 := []) (pc := 21) (dec_at lsk_69 (k := 13) rfl) m_7_65 (Or.inl rfl) rfl (Nat.le_of_ble_eq_true rfl) sx_64 me_70 rfl h (fun u9 h => ?_)
  refine u_ld (v := .ref 64) (pc := 24) (dec_at lsk_69 (k := 14) rfl) rfl ?_
  refine u_gZ (z := 4) (pc := 25) (dec_at lsk_69 (k := 15) rfl) f_7_61 sx_64 rfl rfl ?_
  have g10 := h.1
  have h := h.2
  refine u_ifF (pc := 28) (tgt := 35) (dec_at lsk_69 (k := 16) rfl) rfl (c0_ne g10) (fun e11 => ?_) (fun e11 => ?_)
  · have h := ifT e11 h
    refine u_ld (v := .ref 64) (pc := 31) (dec_at lsk_69 (k := 17) rfl) rfl ?_
    refine u_cvV (As := []) (rb := 64) (st2 := []) (pc := 32) (dec_at lsk_69 (k := 18) rfl) m_7_68 (Or.inl rfl) rfl (Nat.le_of_ble_eq_true rfl) sx_64 me_79 rfl h (fun u12 h => ?_)
    refine u_ld (v := .ref 64) (pc := 35) (dec_at lsk_69 (k := 19) rfl) rfl ?_
    refine u_gZ (z := 4) (pc := 36) (dec_at lsk_69 (k := 20) rfl) f_7_61 sx_64 rfl rfl ?_
    have g13 := h.1
    have h := h.2
    refine u_ifF (pc := 39) (tgt := 48) (dec_at lsk_69 (k := 21) rfl) rfl (c0_ne g13) (fun e14 => ?_) (fun e14 => ?_)
    · have h := ifT e14 h
      refine u_ld (v := .ref 64) (pc := 42) (dec_at lsk_69 (k := 22) rfl) rfl ?_
      refine u_ld (v := .ref l4) (pc := 43) (dec_at lsk_69 (k := 23) rfl) rfl ?_
      refine u_cvV (As := [.ref l4]) (rb := 64) (st2 := []) (pc := 45) (dec_at lsk_69 (k := 24) rfl) m_7_71 (Or.inl rfl) rfl (Nat.le_of_ble_eq_true rfl) sx_64 me_85 rfl h (fun u15 h => ?_)
      refine u_ld (v := iV 0) (pc := 48) (dec_at lsk_69 (k := 25) rfl) rfl ?_
      refine u_sto (lv' := [.ref 64, iV l1, .ref l2, .ref l3, .ref l4, iV 0]) (pc := 49) (dec_at lsk_69 (k := 26) rfl) rfl ?_
      exact u_weak (sbK (sbD (sbD (sbD (sbD (sbK sb0)))))) h
    · have h := ifF e14 h
      refine u_ld (v := iV 0) (pc := 48) (dec_at lsk_69 (k := 25) rfl) rfl ?_
      refine u_sto (lv' := [.ref 64, iV l1, .ref l2, .ref l3, .ref l4, iV 0]) (pc := 49) (dec_at lsk_69 (k := 26) rfl) rfl ?_
      exact u_weak (sbK (sbD (sbD (sbD (sbD (sbK sb0)))))) h
  · have h := ifF e11 h
    refine u_ld (v := .ref 64) (pc := 35) (dec_at lsk_69 (k := 19) rfl) rfl ?_
    refine u_gZ (z := 4) (pc := 36) (dec_at lsk_69 (k := 20) rfl) f_7_61 sx_64 rfl rfl ?_
    refine u_ifF (pc := 39) (tgt := 48) (dec_at lsk_69 (k := 21) rfl) rfl (c0_ne g10) (fun e16 => absurd e16 e11) (fun _ => ?_)
    refine u_ld (v := iV 0) (pc := 48) (dec_at lsk_69 (k := 25) rfl) rfl ?_
    refine u_sto (lv' := [.ref 64, iV l1, .ref l2, .ref l3, .ref l4, iV 0]) (pc := 49) (dec_at lsk_69 (k := 26) rfl) rfl ?_
    exact u_weak (sbK (sbD (sbD (sbD (sbD (sbK sb0)))))) h
theorem k_69_51 {d : Nat} {Q : Int → uS → Prop} {u : uS} {l5 : Int} (h : (rI l5) ∧ ((rI (u.1 64 3)) ∧ (if l5 < u.1 64 3 then ((0 ≤ l5) ∧ ((l5 < 2000) ∧ ((0 ≤ u.1 71 l5) ∧ ((u.1 71 l5 < 4096) ∧ (∀ u8 : uS, u8 = wr u 70 (u.1 71 l5) 0 → (K_69 d 51 [.ref 64, .retAddr 0, .retAddr 0, .retAddr 0, .retAddr 0, iV (l5 + 1)] [] u8 Q)))))) else ((rI (u.1 64 4)) ∧ (if u.1 64 4 = 0 then (Q 1 u) else (Q 0 u)))))) : K_69 d 51 [.ref 64, .retAddr 0, .retAddr 0, .retAddr 0, .retAddr 0, iV l5] [] u Q := by
  unfold K_69
  refine u_ld (v := iV l5) (pc := 51) (dec_at lsk_69 (k := 27) rfl) rfl ?_
  refine u_ld (v := .ref 64) (pc := 53) (dec_at lsk_69 (k := 28) rfl) rfl ?_
  refine u_gI (z := 3) (pc := 54) (dec_at lsk_69 (k := 29) rfl) f_7_75 sx_64 rfl rfl ?_
  have g1 := h.1
  have h := h.2
  have g2 := h.1
  have h := h.2
  refine u_icF (pc := 57) (tgt := 79) (dec_at lsk_69 (k := 30) rfl) rfl (ci_ge g1 g2) (fun e3 => ?_) (fun e3 => ?_)
  · have h := ifT e3 h
    refine u_ld (v := .ref 64) (pc := 60) (dec_at lsk_69 (k := 31) rfl) rfl ?_
    refine u_gS (o := 6) (p := 70) (pc := 61) (dec_at lsk_69 (k := 32) rfl) f_7_32 sx_64 rfl rfl ?_
    refine u_ld (v := .ref 64) (pc := 64) (dec_at lsk_69 (k := 33) rfl) rfl ?_
    refine u_gS (o := 7) (p := 71) (pc := 65) (dec_at lsk_69 (k := 34) rfl) f_7_35 sx_64 rfl rfl ?_
    refine u_ld (v := iV l5) (pc := 68) (dec_at lsk_69 (k := 35) rfl) rfl ?_
    have g4 := h.1
    have h := h.2
    have g5 := h.1
    have h := h.2
    refine u_iald (pc := 70) (dec_at lsk_69 (k := 36) rfl) sx_71 g4 g5 ?_
    refine u_ld (v := iV 0) (pc := 71) (dec_at lsk_69 (k := 37) rfl) rfl ?_
    have g6 := h.1
    have h := h.2
    have g7 := h.1
    have h := h.2
    refine u_iast (pc := 72) (dec_at lsk_69 (k := 38) rfl) sx_70 g6 g7 (fun u8 e9 => ?_)
    have h := h u8 e9
    refine u_inc (lv' := [.ref 64, .retAddr 0, .retAddr 0, .retAddr 0, .retAddr 0, iV (l5 + 1)]) (pc := 73) (dec_at lsk_69 (k := 39) rfl) rfl (by decide) rfl ?_
    refine u_goto (pc := 76) (tgt := 51) (dec_at lsk_69 (k := 40) rfl) rfl ?_
    exact h
  · have h := ifF e3 h
    refine u_ld (v := .ref 64) (pc := 79) (dec_at lsk_69 (k := 41) rfl) rfl ?_
    refine u_gZ (z := 4) (pc := 80) (dec_at lsk_69 (k := 42) rfl) f_7_61 sx_64 rfl rfl ?_
    have g10 := h.1
    have h := h.2
    refine u_ifF (pc := 83) (tgt := 90) (dec_at lsk_69 (k := 43) rfl) rfl (c0_ne g10) (fun e11 => ?_) (fun e11 => ?_)
    · have h := ifT e11 h
      refine u_ld (v := iV 1) (pc := 86) (dec_at lsk_69 (k := 44) rfl) rfl ?_
      refine u_goto (pc := 87) (tgt := 91) (dec_at lsk_69 (k := 45) rfl) rfl ?_
      exact u_rZ (pc := 91) (dec_at lsk_69 (k := 47) rfl) rfl (by decide) h
    · have h := ifF e11 h
      refine u_ld (v := iV 0) (pc := 90) (dec_at lsk_69 (k := 46) rfl) rfl ?_
      exact u_rZ (pc := 91) (dec_at lsk_69 (k := 47) rfl) rfl (by decide) h
/-- method 70 -/
def K_70 (d pc : Nat) (lv : ev_L) (st : List Value) (u : uS) (Q : uS → Prop) : Prop := okU d 7 3 false none prog_6_method_3_code (qV Q) pc lv st u
theorem e_70 {d : Nat} {Q : uS → Prop} {u : uS} (h : ∀ u1 : uS, u1 = wr u 64 3 0 → ((rI (u1.1 64 0)) ∧ (if u1.1 64 0 = 2 then ((isO (u1.2 64 1) 5) ∧ (if land (lushr (u1.1 (u1.2 64 1) 1) 0) 1 = 0 then (cI (d + 1) 72 [.ref 64, iV 0, lV 0] u1 (fun r8 u7 => K_70 (d + 1) 90 [.ref 64, iV 0, .retAddr 0] [] u7 Q)) else (cI (d + 1) 72 [.ref 64, iV 0, lV 1] u1 (fun r10 u9 => K_70 (d + 1) 90 [.ref 64, iV 0, .retAddr 0] [] u9 Q)))) else (if u1.1 64 0 = 3 then (cI (d + 1) 72 [.ref 64, iV 0, lV 1] u1 (fun r13 u12 => K_70 (d + 1) 90 [.ref 64, iV 0, .retAddr 0] [] u12 Q)) else (if u1.1 64 0 = 4 then (cI (d + 1) 72 [.ref 64, iV 1, lV 0] u1 (fun r16 u15 => K_70 (d + 1) 90 [.ref 64, iV 0, .retAddr 0] [] u15 Q)) else (cI (d + 1) 72 [.ref 64, iV 0, lV 0] u1 (fun r18 u17 => K_70 (d + 1) 90 [.ref 64, iV 0, .retAddr 0] [] u17 Q))))))) : cV (d + 2) 70 [.ref 64] u Q := by
  refine u_of me_70 (Nat.le_of_ble_eq_true rfl) ?_
  refine u_ld (v := .ref 64) (pc := 0) (dec_at lsk_70 (k := 0) rfl) rfl ?_
  refine u_ld (v := iV 0) (pc := 1) (dec_at lsk_70 (k := 1) rfl) rfl ?_
  refine u_pI (z := 3) (pc := 2) (dec_at lsk_70 (k := 2) rfl) f_7_75 sx_64 rfl rfl rfl rfl (fun u1 e2 => ?_)
  have h := h u1 e2
  refine u_ld (v := .ref 64) (pc := 5) (dec_at lsk_70 (k := 3) rfl) rfl ?_
  refine u_gI (z := 0) (pc := 6) (dec_at lsk_70 (k := 4) rfl) f_7_57 sx_64 rfl rfl ?_
  have g3 := h.1
  have h := h.2
  by_cases e4 : u1.1 64 0 = 2
  · have h := ifT e4 h
    refine u_ts (pc := 9) (tgt := 36) (o := 27) (dec_at lsk_70 (k := 5) rfl) g3 (by omega) (by rw [e4]; rfl) rfl ?_
    refine u_ld (v := .ref 64) (pc := 36) (dec_at lsk_70 (k := 6) rfl) rfl ?_
    refine u_ld (v := iV 0) (pc := 37) (dec_at lsk_70 (k := 7) rfl) rfl ?_
    refine u_ld (v := .ref 64) (pc := 38) (dec_at lsk_70 (k := 8) rfl) rfl ?_
    refine u_gR (z := 1) (pc := 39) (dec_at lsk_70 (k := 9) rfl) f_7_12 sx_64 rfl rfl ?_
    refine u_ld (v := iV 0) (pc := 42) (dec_at lsk_70 (k := 10) rfl) rfl ?_
    have g5 := h.1
    have h := h.2
    refine u_cvI (As := [iV 0]) (rb := u1.2 64 1) (st2 := [iV 0, .ref 64]) (pc := 43) (dec_at lsk_70 (k := 11) rfl) m_7_78 (Or.inl rfl) rfl (Nat.le_of_ble_eq_true rfl) g5 me_71 rfl ?_ (fun _ _ h_ => h_)
    refine u_of me_71 (Nat.le_of_ble_eq_true rfl) ?_
    refine u_ld (v := .ref (u1.2 64 1)) (pc := 0) (dec_at lsk_71 (k := 0) rfl) rfl ?_
    refine u_gL (z := 1) (pc := 1) (dec_at lsk_71 (k := 1) rfl) f_5_19 g5 rfl rfl ?_
    refine u_ld (v := iV 0) (pc := 4) (dec_at lsk_71 (k := 2) rfl) rfl ?_
    refine u_lushr (pc := 5) (dec_at lsk_71 (k := 3) rfl) ?_
    refine u_cl (x := 1) (pc := 6) (dec_at lsk_71 (k := 4) rfl) rfl (by decide) ?_
    refine u_land (pc := 7) (dec_at lsk_71 (k := 5) rfl) ?_
    refine u_cl (x := 0) (pc := 8) (dec_at lsk_71 (k := 6) rfl) rfl (by decide) ?_
    refine u_st (st' := [.int (lg_cmp (Int64.ofInt (land (lushr (u1.1 (u1.2 64 1) 1) 0) 1)) (Int64.ofInt 0))]) (pc := 9) (dec_at lsk_71 (k := 7) rfl) rfl ?_
    refine u_ifT (pc := 10) (tgt := 17) (dec_at lsk_71 (k := 8) rfl) rfl (cl_eq (rl_toInt _) (by decide)) (fun e6 => ?_) (fun e6 => ?_)
    · have h := ifT e6 h
      refine u_ld (v := iV 0) (pc := 17) (dec_at lsk_71 (k := 11) rfl) rfl ?_
      refine u_rZ (pc := 18) (dec_at lsk_71 (k := 12) rfl) rfl (by decide) ?_
      refine u_ifT (pc := 46) (tgt := 53) (dec_at lsk_70 (k := 12) rfl) rfl (c0_eq (by decide)) (fun _ => ?_) (fun e => absurd e (by decide))
      refine u_cl (x := 0) (pc := 53) (dec_at lsk_70 (k := 15) rfl) rfl (by decide) ?_
      refine u_cvI (As := [iV 0, lV 0]) (rb := 64) (st2 := []) (pc := 54) (dec_at lsk_70 (k := 16) rfl) m_7_82 (Or.inl rfl) rfl (Nat.le_of_ble_eq_true rfl) sx_64 me_72 rfl h (fun r8 u7 h => ?_)
      refine u_st (st' := []) (pc := 57) (dec_at lsk_70 (k := 17) rfl) rfl ?_
      refine u_goto (pc := 58) (tgt := 88) (dec_at lsk_70 (k := 18) rfl) rfl ?_
      refine u_ld (v := iV 0) (pc := 88) (dec_at lsk_70 (k := 36) rfl) rfl ?_
      refine u_sto (lv' := [.ref 64, iV 0, .retAddr 0]) (pc := 89) (dec_at lsk_70 (k := 37) rfl) rfl ?_
      exact h
    · have h := ifF e6 h
      refine u_ld (v := iV 1) (pc := 13) (dec_at lsk_71 (k := 9) rfl) rfl ?_
      refine u_goto (pc := 14) (tgt := 18) (dec_at lsk_71 (k := 10) rfl) rfl ?_
      refine u_rZ (pc := 18) (dec_at lsk_71 (k := 12) rfl) rfl (by decide) ?_
      refine u_ifT (pc := 46) (tgt := 53) (dec_at lsk_70 (k := 12) rfl) rfl (c0_eq (by decide)) (fun e => absurd e (by decide)) (fun _ => ?_)
      refine u_cl (x := 1) (pc := 49) (dec_at lsk_70 (k := 13) rfl) rfl (by decide) ?_
      refine u_goto (pc := 50) (tgt := 54) (dec_at lsk_70 (k := 14) rfl) rfl ?_
      refine u_cvI (As := [iV 0, lV 1]) (rb := 64) (st2 := []) (pc := 54) (dec_at lsk_70 (k := 16) rfl) m_7_82 (Or.inl rfl) rfl (Nat.le_of_ble_eq_true rfl) sx_64 me_72 rfl h (fun r10 u9 h => ?_)
      refine u_st (st' := []) (pc := 57) (dec_at lsk_70 (k := 17) rfl) rfl ?_
      refine u_goto (pc := 58) (tgt := 88) (dec_at lsk_70 (k := 18) rfl) rfl ?_
      refine u_ld (v := iV 0) (pc := 88) (dec_at lsk_70 (k := 36) rfl) rfl ?_
      refine u_sto (lv' := [.ref 64, iV 0, .retAddr 0]) (pc := 89) (dec_at lsk_70 (k := 37) rfl) rfl ?_
      exact h
  · have h := ifF e4 h
    by_cases e11 : u1.1 64 0 = 3
    · have h := ifT e11 h
      refine u_ts (pc := 9) (tgt := 61) (o := 52) (dec_at lsk_70 (k := 5) rfl) g3 (by omega) (by rw [e11]; rfl) rfl ?_
      refine u_ld (v := .ref 64) (pc := 61) (dec_at lsk_70 (k := 19) rfl) rfl ?_
      refine u_ld (v := iV 0) (pc := 62) (dec_at lsk_70 (k := 20) rfl) rfl ?_
      refine u_cl (x := 1) (pc := 63) (dec_at lsk_70 (k := 21) rfl) rfl (by decide) ?_
      refine u_cvI (As := [iV 0, lV 1]) (rb := 64) (st2 := []) (pc := 64) (dec_at lsk_70 (k := 22) rfl) m_7_82 (Or.inl rfl) rfl (Nat.le_of_ble_eq_true rfl) sx_64 me_72 rfl h (fun r13 u12 h => ?_)
      refine u_st (st' := []) (pc := 67) (dec_at lsk_70 (k := 23) rfl) rfl ?_
      refine u_goto (pc := 68) (tgt := 88) (dec_at lsk_70 (k := 24) rfl) rfl ?_
      refine u_ld (v := iV 0) (pc := 88) (dec_at lsk_70 (k := 36) rfl) rfl ?_
      refine u_sto (lv' := [.ref 64, iV 0, .retAddr 0]) (pc := 89) (dec_at lsk_70 (k := 37) rfl) rfl ?_
      exact h
    · have h := ifF e11 h
      by_cases e14 : u1.1 64 0 = 4
      · have h := ifT e14 h
        refine u_ts (pc := 9) (tgt := 71) (o := 62) (dec_at lsk_70 (k := 5) rfl) g3 (by omega) (by rw [e14]; rfl) rfl ?_
        refine u_ld (v := .ref 64) (pc := 71) (dec_at lsk_70 (k := 25) rfl) rfl ?_
        refine u_ld (v := iV 1) (pc := 72) (dec_at lsk_70 (k := 26) rfl) rfl ?_
        refine u_cl (x := 0) (pc := 73) (dec_at lsk_70 (k := 27) rfl) rfl (by decide) ?_
        refine u_cvI (As := [iV 1, lV 0]) (rb := 64) (st2 := []) (pc := 74) (dec_at lsk_70 (k := 28) rfl) m_7_82 (Or.inl rfl) rfl (Nat.le_of_ble_eq_true rfl) sx_64 me_72 rfl h (fun r16 u15 h => ?_)
        refine u_st (st' := []) (pc := 77) (dec_at lsk_70 (k := 29) rfl) rfl ?_
        refine u_goto (pc := 78) (tgt := 88) (dec_at lsk_70 (k := 30) rfl) rfl ?_
        refine u_ld (v := iV 0) (pc := 88) (dec_at lsk_70 (k := 36) rfl) rfl ?_
        refine u_sto (lv' := [.ref 64, iV 0, .retAddr 0]) (pc := 89) (dec_at lsk_70 (k := 37) rfl) rfl ?_
        exact h
      · have h := ifF e14 h
        refine u_td (pc := 9) (tgt := 81) (dec_at lsk_70 (k := 5) rfl) g3 (by omega) rfl ?_
        refine u_ld (v := .ref 64) (pc := 81) (dec_at lsk_70 (k := 31) rfl) rfl ?_
        refine u_ld (v := iV 0) (pc := 82) (dec_at lsk_70 (k := 32) rfl) rfl ?_
        refine u_cl (x := 0) (pc := 83) (dec_at lsk_70 (k := 33) rfl) rfl (by decide) ?_
        refine u_cvI (As := [iV 0, lV 0]) (rb := 64) (st2 := []) (pc := 84) (dec_at lsk_70 (k := 34) rfl) m_7_82 (Or.inl rfl) rfl (Nat.le_of_ble_eq_true rfl) sx_64 me_72 rfl h (fun r18 u17 h => ?_)
        refine u_st (st' := []) (pc := 87) (dec_at lsk_70 (k := 35) rfl) rfl ?_
        refine u_ld (v := iV 0) (pc := 88) (dec_at lsk_70 (k := 36) rfl) rfl ?_
        refine u_sto (lv' := [.ref 64, iV 0, .retAddr 0]) (pc := 89) (dec_at lsk_70 (k := 37) rfl) rfl ?_
        exact h
theorem k_70_90 {d : Nat} {Q : uS → Prop} {u : uS} {l1 : Int} (h : (rI l1) ∧ ((rI (u.1 64 3)) ∧ (if l1 < u.1 64 3 then (if l1 < 2000 then ((rI (u.1 64 4)) ∧ (if u.1 64 4 = 0 then (K_70 (d + 1) 114 [.ref 64, iV l1, iV 0] [] u Q) else (Q u))) else (Q u)) else (Q u)))) : K_70 (d + 1) 90 [.ref 64, iV l1, .retAddr 0] [] u Q := by
  unfold K_70
  refine u_ld (v := iV l1) (pc := 90) (dec_at lsk_70 (k := 38) rfl) rfl ?_
  refine u_ld (v := .ref 64) (pc := 91) (dec_at lsk_70 (k := 39) rfl) rfl ?_
  refine u_gI (z := 3) (pc := 92) (dec_at lsk_70 (k := 40) rfl) f_7_75 sx_64 rfl rfl ?_
  have g1 := h.1
  have h := h.2
  have g2 := h.1
  have h := h.2
  refine u_icF (pc := 95) (tgt := 167) (dec_at lsk_70 (k := 41) rfl) rfl (ci_ge g1 g2) (fun e3 => ?_) (fun e3 => ?_)
  · have h := ifT e3 h
    refine u_ld (v := iV l1) (pc := 98) (dec_at lsk_70 (k := 42) rfl) rfl ?_
    refine u_c (x := 2000) (pc := 99) (dec_at lsk_70 (k := 43) rfl) rfl (by decide) ?_
    refine u_icF (pc := 102) (tgt := 167) (dec_at lsk_70 (k := 44) rfl) rfl (ci_ge g1 (by decide)) (fun e4 => ?_) (fun e4 => ?_)
    · have h := ifT e4 h
      refine u_ld (v := .ref 64) (pc := 105) (dec_at lsk_70 (k := 45) rfl) rfl ?_
      refine u_gZ (z := 4) (pc := 106) (dec_at lsk_70 (k := 46) rfl) f_7_61 sx_64 rfl rfl ?_
      have g5 := h.1
      have h := h.2
      refine u_ifF (pc := 109) (tgt := 167) (dec_at lsk_70 (k := 47) rfl) rfl (c0_ne g5) (fun e6 => ?_) (fun e6 => ?_)
      · have h := ifT e6 h
        refine u_ld (v := iV 0) (pc := 112) (dec_at lsk_70 (k := 48) rfl) rfl ?_
        refine u_sto (lv' := [.ref 64, iV l1, iV 0]) (pc := 113) (dec_at lsk_70 (k := 49) rfl) rfl ?_
        exact h
      · have h := ifF e6 h
        exact u_rV (pc := 167) (dec_at lsk_70 (k := 79) rfl) rfl h
    · have h := ifF e4 h
      exact u_rV (pc := 167) (dec_at lsk_70 (k := 79) rfl) rfl h
  · have h := ifF e3 h
    exact u_rV (pc := 167) (dec_at lsk_70 (k := 79) rfl) rfl h
theorem k_70_114 {d : Nat} {Q : uS → Prop} {u : uS} {l1 l2 : Int} (h : (rI l2) ∧ (if l2 < 10 then ((rI (u.1 64 4)) ∧ (if u.1 64 4 = 0 then ((0 ≤ l1) ∧ ((l1 < 2000) ∧ (cI (d + 1) 74 [.ref 64, iV (u.1 67 l1), lV (u.1 68 l1), iV l2] u (fun r8 u7 => (0 ≤ (l1 * 10) + l2) ∧ (((l1 * 10) + l2 < 20000) ∧ (∀ u11 : uS, u11 = wr u7 69 ((l1 * 10) + l2) r8 → (K_70 (d + 1) 114 [.ref 64, iV l1, iV (l2 + 1)] [] u11 Q))))))) else (K_70 (d + 1) 90 [.ref 64, iV (l1 + 1), .retAddr 0] [] u Q))) else (K_70 (d + 1) 90 [.ref 64, iV (l1 + 1), .retAddr 0] [] u Q))) : K_70 (d + 1) 114 [.ref 64, iV l1, iV l2] [] u Q := by
  unfold K_70
  refine u_ld (v := iV l2) (pc := 114) (dec_at lsk_70 (k := 50) rfl) rfl ?_
  refine u_c (x := 10) (pc := 115) (dec_at lsk_70 (k := 51) rfl) rfl (by decide) ?_
  have g1 := h.1
  have h := h.2
  refine u_icF (pc := 117) (tgt := 161) (dec_at lsk_70 (k := 52) rfl) rfl (ci_ge g1 (by decide)) (fun e2 => ?_) (fun e2 => ?_)
  · have h := ifT e2 h
    refine u_ld (v := .ref 64) (pc := 120) (dec_at lsk_70 (k := 53) rfl) rfl ?_
    refine u_gZ (z := 4) (pc := 121) (dec_at lsk_70 (k := 54) rfl) f_7_61 sx_64 rfl rfl ?_
    have g3 := h.1
    have h := h.2
    refine u_ifF (pc := 124) (tgt := 161) (dec_at lsk_70 (k := 55) rfl) rfl (c0_ne g3) (fun e4 => ?_) (fun e4 => ?_)
    · have h := ifT e4 h
      refine u_ld (v := .ref 64) (pc := 127) (dec_at lsk_70 (k := 56) rfl) rfl ?_
      refine u_gS (o := 5) (p := 69) (pc := 128) (dec_at lsk_70 (k := 57) rfl) f_7_29 sx_64 rfl rfl ?_
      refine u_ld (v := iV l1) (pc := 131) (dec_at lsk_70 (k := 58) rfl) rfl ?_
      refine u_c (x := 10) (pc := 132) (dec_at lsk_70 (k := 59) rfl) rfl (by decide) ?_
      refine u_imul (pc := 134) (dec_at lsk_70 (k := 60) rfl) ?_
      refine u_ld (v := iV l2) (pc := 135) (dec_at lsk_70 (k := 61) rfl) rfl ?_
      refine u_iadd (pc := 136) (dec_at lsk_70 (k := 62) rfl) ?_
      refine u_ld (v := .ref 64) (pc := 137) (dec_at lsk_70 (k := 63) rfl) rfl ?_
      refine u_ld (v := .ref 64) (pc := 138) (dec_at lsk_70 (k := 64) rfl) rfl ?_
      refine u_gS (o := 3) (p := 67) (pc := 139) (dec_at lsk_70 (k := 65) rfl) f_7_21 sx_64 rfl rfl ?_
      refine u_ld (v := iV l1) (pc := 142) (dec_at lsk_70 (k := 66) rfl) rfl ?_
      have g5 := h.1
      have h := h.2
      have g6 := h.1
      have h := h.2
      refine u_iald (pc := 143) (dec_at lsk_70 (k := 67) rfl) sx_67 g5 g6 ?_
      refine u_ld (v := .ref 64) (pc := 144) (dec_at lsk_70 (k := 68) rfl) rfl ?_
      refine u_gS (o := 4) (p := 68) (pc := 145) (dec_at lsk_70 (k := 69) rfl) f_7_25 sx_64 rfl rfl ?_
      refine u_ld (v := iV l1) (pc := 148) (dec_at lsk_70 (k := 70) rfl) rfl ?_
      refine u_lald (pc := 149) (dec_at lsk_70 (k := 71) rfl) sx_68 g5 g6 ?_
      refine u_ld (v := iV l2) (pc := 150) (dec_at lsk_70 (k := 72) rfl) rfl ?_
      refine u_cvI (As := [iV (u.1 67 l1), lV (u.1 68 l1), iV l2]) (rb := 64) (st2 := [iV ((l1 * 10) + l2), .ref 69]) (pc := 151) (dec_at lsk_70 (k := 73) rfl) m_7_86 (Or.inl rfl) rfl (Nat.le_of_ble_eq_true rfl) sx_64 me_74 rfl h (fun r8 u7 h => ?_)
      have g9 := h.1
      have h := h.2
      have g10 := h.1
      have h := h.2
      refine u_iast (pc := 154) (dec_at lsk_70 (k := 74) rfl) sx_69 g9 g10 (fun u11 e12 => ?_)
      have h := h u11 e12
      refine u_inc (lv' := [.ref 64, iV l1, iV (l2 + 1)]) (pc := 155) (dec_at lsk_70 (k := 75) rfl) rfl (by decide) rfl ?_
      refine u_goto (pc := 158) (tgt := 114) (dec_at lsk_70 (k := 76) rfl) rfl ?_
      exact h
    · have h := ifF e4 h
      refine u_inc (lv' := [.ref 64, iV (l1 + 1), iV l2]) (pc := 161) (dec_at lsk_70 (k := 77) rfl) rfl (by decide) rfl ?_
      refine u_goto (pc := 164) (tgt := 90) (dec_at lsk_70 (k := 78) rfl) rfl ?_
      exact u_weak (sbK (sbK (sbD sb0))) h
  · have h := ifF e2 h
    refine u_inc (lv' := [.ref 64, iV (l1 + 1), iV l2]) (pc := 161) (dec_at lsk_70 (k := 77) rfl) rfl (by decide) rfl ?_
    refine u_goto (pc := 164) (tgt := 90) (dec_at lsk_70 (k := 78) rfl) rfl ?_
    exact u_weak (sbK (sbK (sbD sb0))) h
/-- method 72 -/
def K_72 (d pc : Nat) (lv : ev_L) (st : List Value) (u : uS) (Q : Int → uS → Prop) : Prop := okU d 7 9 false (some .int) prog_6_method_6_code (qI Q) pc lv st u
theorem e_72 {d : Nat} {Q : Int → uS → Prop} {u : uS} {l1 l2 : Int} (h : (rI l1) ∧ (K_72 d 25 [.ref 64, iV l1, lV l2, .retAddr 0, .retAddr 0, .retAddr 0, iV (wI (lushr (((l2 * 40) + l1) * (-7046029254386353131)) 52)), iV 0, .retAddr 0] [] u Q)) : cI (d + 1) 72 [.ref 64, iV l1, lV l2] u Q := by
  refine u_of me_72 (Nat.le_of_ble_eq_true rfl) ?_
  refine u_ld (v := lV l2) (pc := 0) (dec_at lsk_72 (k := 0) rfl) rfl ?_
  refine u_ldc2 (x := 40) (pc := 1) (dec_at lsk_72 (k := 1) rfl) con_7_102 (by decide) ?_
  refine u_lmul (pc := 4) (dec_at lsk_72 (k := 2) rfl) ?_
  refine u_ld (v := iV l1) (pc := 5) (dec_at lsk_72 (k := 3) rfl) rfl ?_
  have g1 := h.1
  have h := h.2
  refine u_i2l (pc := 6) (dec_at lsk_72 (k := 4) rfl) g1 ?_
  refine u_ladd (pc := 7) (dec_at lsk_72 (k := 5) rfl) ?_
  refine u_ldc2 (x := (-7046029254386353131)) (pc := 8) (dec_at lsk_72 (k := 6) rfl) con_7_104 (by decide) ?_
  refine u_lmul (pc := 11) (dec_at lsk_72 (k := 7) rfl) ?_
  refine u_sto (lv' := [.ref 64, iV l1, lV l2, .retAddr 0, lV (((l2 * 40) + l1) * (-7046029254386353131)), .retAddr 0, .retAddr 0, .retAddr 0, .retAddr 0]) (pc := 12) (dec_at lsk_72 (k := 8) rfl) rfl ?_
  refine u_ld (v := lV (((l2 * 40) + l1) * (-7046029254386353131))) (pc := 14) (dec_at lsk_72 (k := 9) rfl) rfl ?_
  refine u_c (x := 52) (pc := 16) (dec_at lsk_72 (k := 10) rfl) rfl (by decide) ?_
  refine u_lushr (pc := 18) (dec_at lsk_72 (k := 11) rfl) ?_
  refine u_l2w (pc := 19) (dec_at lsk_72 (k := 12) rfl) ?_
  refine u_sto (lv' := [.ref 64, iV l1, lV l2, .retAddr 0, lV (((l2 * 40) + l1) * (-7046029254386353131)), .retAddr 0, iV (wI (lushr (((l2 * 40) + l1) * (-7046029254386353131)) 52)), .retAddr 0, .retAddr 0]) (pc := 20) (dec_at lsk_72 (k := 13) rfl) rfl ?_
  refine u_ld (v := iV 0) (pc := 22) (dec_at lsk_72 (k := 14) rfl) rfl ?_
  refine u_sto (lv' := [.ref 64, iV l1, lV l2, .retAddr 0, lV (((l2 * 40) + l1) * (-7046029254386353131)), .retAddr 0, iV (wI (lushr (((l2 * 40) + l1) * (-7046029254386353131)) 52)), iV 0, .retAddr 0]) (pc := 23) (dec_at lsk_72 (k := 15) rfl) rfl ?_
  exact u_weak (sbK (sbK (sbK (sbK (sbD (sbK (sbK (sbK (sbK sb0))))))))) h
theorem k_72_25 {d : Nat} {Q : Int → uS → Prop} {u : uS} {l1 l2 l6 l7 : Int} (h : (rI l7) ∧ (if l7 < 4096 then ((0 ≤ l6) ∧ ((l6 < 4096) ∧ ((rI ((u.1 70 l6) - 1)) ∧ (if (u.1 70 l6) - 1 < 0 then (cI d 73 [.ref 64, iV l1, lV l2, iV l6] u (fun r8 u7 => Q r8 u7)) else (((u.1 70 l6) - 1 < 2000) ∧ ((rI (u.1 67 ((u.1 70 l6) - 1))) ∧ ((rI l1) ∧ (if u.1 67 ((u.1 70 l6) - 1) = l1 then ((rL (u.1 68 ((u.1 70 l6) - 1))) ∧ ((rL l2) ∧ (if u.1 68 ((u.1 70 l6) - 1) = l2 then (Q ((u.1 70 l6) - 1) u) else (K_72 d 25 [.ref 64, iV l1, lV l2, .retAddr 0, .retAddr 0, .retAddr 0, iV (iand (l6 + 1) 4095), iV (l7 + 1), .retAddr 0] [] u Q)))) else (K_72 d 25 [.ref 64, iV l1, lV l2, .retAddr 0, .retAddr 0, .retAddr 0, iV (iand (l6 + 1) 4095), iV (l7 + 1), .retAddr 0] [] u Q))))))))) else (Q 0 u))) : K_72 d 25 [.ref 64, iV l1, lV l2, .retAddr 0, .retAddr 0, .retAddr 0, iV l6, iV l7, .retAddr 0] [] u Q := by
  unfold K_72
  refine u_ld (v := iV l7) (pc := 25) (dec_at lsk_72 (k := 16) rfl) rfl ?_
  refine u_c (x := 4096) (pc := 27) (dec_at lsk_72 (k := 17) rfl) rfl (by decide) ?_
  have g1 := h.1
  have h := h.2
  refine u_icF (pc := 30) (tgt := 100) (dec_at lsk_72 (k := 18) rfl) rfl (ci_ge g1 (by decide)) (fun e2 => ?_) (fun e2 => ?_)
  · have h := ifT e2 h
    refine u_ld (v := .ref 64) (pc := 33) (dec_at lsk_72 (k := 19) rfl) rfl ?_
    refine u_gS (o := 6) (p := 70) (pc := 34) (dec_at lsk_72 (k := 20) rfl) f_7_32 sx_64 rfl rfl ?_
    refine u_ld (v := iV l6) (pc := 37) (dec_at lsk_72 (k := 21) rfl) rfl ?_
    have g3 := h.1
    have h := h.2
    have g4 := h.1
    have h := h.2
    refine u_iald (pc := 39) (dec_at lsk_72 (k := 22) rfl) sx_70 g3 g4 ?_
    refine u_ld (v := iV 1) (pc := 40) (dec_at lsk_72 (k := 23) rfl) rfl ?_
    refine u_isub (pc := 41) (dec_at lsk_72 (k := 24) rfl) ?_
    refine u_sto (lv' := [.ref 64, iV l1, lV l2, .retAddr 0, .retAddr 0, .retAddr 0, iV l6, iV l7, iV ((u.1 70 l6) - 1)]) (pc := 42) (dec_at lsk_72 (k := 25) rfl) rfl ?_
    refine u_ld (v := iV ((u.1 70 l6) - 1)) (pc := 44) (dec_at lsk_72 (k := 26) rfl) rfl ?_
    have g5 := h.1
    have h := h.2
    refine u_ifF (pc := 46) (tgt := 58) (dec_at lsk_72 (k := 27) rfl) rfl (c0_ge g5) (fun e6 => ?_) (fun e6 => ?_)
    · have h := ifT e6 h
      refine u_ld (v := .ref 64) (pc := 49) (dec_at lsk_72 (k := 28) rfl) rfl ?_
      refine u_ld (v := iV l1) (pc := 50) (dec_at lsk_72 (k := 29) rfl) rfl ?_
      refine u_ld (v := lV l2) (pc := 51) (dec_at lsk_72 (k := 30) rfl) rfl ?_
      refine u_ld (v := iV l6) (pc := 52) (dec_at lsk_72 (k := 31) rfl) rfl ?_
      refine u_cvI (As := [iV l1, lV l2, iV l6]) (rb := 64) (st2 := []) (pc := 54) (dec_at lsk_72 (k := 32) rfl) m_7_106 (Or.inl rfl) rfl (Nat.le_of_ble_eq_true rfl) sx_64 me_73 rfl h (fun r8 u7 h => ?_)
      exact u_rI (pc := 57) (dec_at lsk_72 (k := 33) rfl) rfl h
    · have h := ifF e6 h
      refine u_ld (v := .ref 64) (pc := 58) (dec_at lsk_72 (k := 34) rfl) rfl ?_
      refine u_gS (o := 3) (p := 67) (pc := 59) (dec_at lsk_72 (k := 35) rfl) f_7_21 sx_64 rfl rfl ?_
      refine u_ld (v := iV ((u.1 70 l6) - 1)) (pc := 62) (dec_at lsk_72 (k := 36) rfl) rfl ?_
      have g9 := h.1
      have h := h.2
      refine u_iald (pc := 64) (dec_at lsk_72 (k := 37) rfl) sx_67 (Int.not_lt.mp e6) g9 ?_
      refine u_ld (v := iV l1) (pc := 65) (dec_at lsk_72 (k := 38) rfl) rfl ?_
      have g10 := h.1
      have h := h.2
      have g11 := h.1
      have h := h.2
      refine u_icF (pc := 66) (tgt := 84) (dec_at lsk_72 (k := 39) rfl) rfl (ci_ne g10 g11) (fun e12 => ?_) (fun e12 => ?_)
      · have h := ifT e12 h
        refine u_ld (v := .ref 64) (pc := 69) (dec_at lsk_72 (k := 40) rfl) rfl ?_
        refine u_gS (o := 4) (p := 68) (pc := 70) (dec_at lsk_72 (k := 41) rfl) f_7_25 sx_64 rfl rfl ?_
        refine u_ld (v := iV ((u.1 70 l6) - 1)) (pc := 73) (dec_at lsk_72 (k := 42) rfl) rfl ?_
        refine u_lald (pc := 75) (dec_at lsk_72 (k := 43) rfl) sx_68 (Int.not_lt.mp e6) g9 ?_
        refine u_ld (v := lV l2) (pc := 76) (dec_at lsk_72 (k := 44) rfl) rfl ?_
        refine u_st (st' := [.int (lg_cmp (Int64.ofInt (u.1 68 ((u.1 70 l6) - 1))) (Int64.ofInt l2))]) (pc := 77) (dec_at lsk_72 (k := 45) rfl) rfl ?_
        have g13 := h.1
        have h := h.2
        have g14 := h.1
        have h := h.2
        refine u_ifF (pc := 78) (tgt := 84) (dec_at lsk_72 (k := 46) rfl) rfl (cl_ne g13 g14) (fun e15 => ?_) (fun e15 => ?_)
        · have h := ifT e15 h
          refine u_ld (v := iV ((u.1 70 l6) - 1)) (pc := 81) (dec_at lsk_72 (k := 47) rfl) rfl ?_
          exact u_rI (pc := 83) (dec_at lsk_72 (k := 48) rfl) rfl h
        · have h := ifF e15 h
          refine u_ld (v := iV l6) (pc := 84) (dec_at lsk_72 (k := 49) rfl) rfl ?_
          refine u_ld (v := iV 1) (pc := 86) (dec_at lsk_72 (k := 50) rfl) rfl ?_
          refine u_iadd (pc := 87) (dec_at lsk_72 (k := 51) rfl) ?_
          refine u_c (x := 4095) (pc := 88) (dec_at lsk_72 (k := 52) rfl) rfl (by decide) ?_
          refine u_iand (pc := 91) (dec_at lsk_72 (k := 53) rfl) ?_
          refine u_sto (lv' := [.ref 64, iV l1, lV l2, .retAddr 0, .retAddr 0, .retAddr 0, iV (iand (l6 + 1) 4095), iV l7, iV ((u.1 70 l6) - 1)]) (pc := 92) (dec_at lsk_72 (k := 54) rfl) rfl ?_
          refine u_inc (lv' := [.ref 64, iV l1, lV l2, .retAddr 0, .retAddr 0, .retAddr 0, iV (iand (l6 + 1) 4095), iV (l7 + 1), iV ((u.1 70 l6) - 1)]) (pc := 94) (dec_at lsk_72 (k := 55) rfl) rfl (by decide) rfl ?_
          refine u_goto (pc := 97) (tgt := 25) (dec_at lsk_72 (k := 56) rfl) rfl ?_
          exact u_weak (sbK (sbK (sbK (sbK (sbK (sbK (sbK (sbK (sbD sb0))))))))) h
      · have h := ifF e12 h
        refine u_ld (v := iV l6) (pc := 84) (dec_at lsk_72 (k := 49) rfl) rfl ?_
        refine u_ld (v := iV 1) (pc := 86) (dec_at lsk_72 (k := 50) rfl) rfl ?_
        refine u_iadd (pc := 87) (dec_at lsk_72 (k := 51) rfl) ?_
        refine u_c (x := 4095) (pc := 88) (dec_at lsk_72 (k := 52) rfl) rfl (by decide) ?_
        refine u_iand (pc := 91) (dec_at lsk_72 (k := 53) rfl) ?_
        refine u_sto (lv' := [.ref 64, iV l1, lV l2, .retAddr 0, .retAddr 0, .retAddr 0, iV (iand (l6 + 1) 4095), iV l7, iV ((u.1 70 l6) - 1)]) (pc := 92) (dec_at lsk_72 (k := 54) rfl) rfl ?_
        refine u_inc (lv' := [.ref 64, iV l1, lV l2, .retAddr 0, .retAddr 0, .retAddr 0, iV (iand (l6 + 1) 4095), iV (l7 + 1), iV ((u.1 70 l6) - 1)]) (pc := 94) (dec_at lsk_72 (k := 55) rfl) rfl (by decide) rfl ?_
        refine u_goto (pc := 97) (tgt := 25) (dec_at lsk_72 (k := 56) rfl) rfl ?_
        exact u_weak (sbK (sbK (sbK (sbK (sbK (sbK (sbK (sbK (sbD sb0))))))))) h
  · have h := ifF e2 h
    refine u_ld (v := iV 0) (pc := 100) (dec_at lsk_72 (k := 57) rfl) rfl ?_
    exact u_rI (pc := 101) (dec_at lsk_72 (k := 58) rfl) rfl h
/-- method 73 -/
def K_73 (d pc : Nat) (lv : ev_L) (st : List Value) (u : uS) (Q : Int → uS → Prop) : Prop := okU d 7 5 false (some .int) prog_6_method_7_code (qI Q) pc lv st u
theorem e_73 {d : Nat} {Q : Int → uS → Prop} {u : uS} {l1 l2 l4 : Int} (h : (rI (u.1 64 3)) ∧ (if u.1 64 3 < 2000 then ((0 ≤ u.1 64 3) ∧ (∀ u4 : uS, u4 = wr u 67 (u.1 64 3) l1 → ((0 ≤ u4.1 64 3) ∧ ((u4.1 64 3 < 2000) ∧ (∀ u8 : uS, u8 = wr u4 68 (u4.1 64 3) l2 → ((0 ≤ u8.1 64 3) ∧ ((u8.1 64 3 < 2000) ∧ (∀ u12 : uS, u12 = wr u8 71 (u8.1 64 3) l4 → (∀ u14 : uS, u14 = wr u12 64 3 ((u12.1 64 3) + 1) → ((0 ≤ l4) ∧ ((l4 < 4096) ∧ (∀ u18 : uS, u18 = wr u14 70 l4 (u14.1 64 3) → (Q ((u18.1 64 3) - 1) u18))))))))))))) else (∀ u20 : uS, u20 = wr u 64 4 1 → (Q 0 u20)))) : cI (d + 1) 73 [.ref 64, iV l1, lV l2, iV l4] u Q := by
  refine u_of me_73 (Nat.le_of_ble_eq_true rfl) ?_
  refine u_ld (v := .ref 64) (pc := 0) (dec_at lsk_73 (k := 0) rfl) rfl ?_
  refine u_gI (z := 3) (pc := 1) (dec_at lsk_73 (k := 1) rfl) f_7_75 sx_64 rfl rfl ?_
  refine u_c (x := 2000) (pc := 4) (dec_at lsk_73 (k := 2) rfl) rfl (by decide) ?_
  have g1 := h.1
  have h := h.2
  refine u_icT (pc := 7) (tgt := 17) (dec_at lsk_73 (k := 3) rfl) rfl (ci_lt g1 (by decide)) (fun e2 => ?_) (fun e2 => ?_)
  · have h := ifT e2 h
    refine u_ld (v := .ref 64) (pc := 17) (dec_at lsk_73 (k := 9) rfl) rfl ?_
    refine u_gS (o := 3) (p := 67) (pc := 18) (dec_at lsk_73 (k := 10) rfl) f_7_21 sx_64 rfl rfl ?_
    refine u_ld (v := .ref 64) (pc := 21) (dec_at lsk_73 (k := 11) rfl) rfl ?_
    refine u_gI (z := 3) (pc := 22) (dec_at lsk_73 (k := 12) rfl) f_7_75 sx_64 rfl rfl ?_
    refine u_ld (v := iV l1) (pc := 25) (dec_at lsk_73 (k := 13) rfl) rfl ?_
    have g3 := h.1
    have h := h.2
    refine u_iast (pc := 26) (dec_at lsk_73 (k := 14) rfl) sx_67 g3 e2 (fun u4 e5 => ?_)
    have h := h u4 e5
    refine u_ld (v := .ref 64) (pc := 27) (dec_at lsk_73 (k := 15) rfl) rfl ?_
    refine u_gS (o := 4) (p := 68) (pc := 28) (dec_at lsk_73 (k := 16) rfl) f_7_25 sx_64 rfl rfl ?_
    refine u_ld (v := .ref 64) (pc := 31) (dec_at lsk_73 (k := 17) rfl) rfl ?_
    refine u_gI (z := 3) (pc := 32) (dec_at lsk_73 (k := 18) rfl) f_7_75 sx_64 rfl rfl ?_
    refine u_ld (v := lV l2) (pc := 35) (dec_at lsk_73 (k := 19) rfl) rfl ?_
    have g6 := h.1
    have h := h.2
    have g7 := h.1
    have h := h.2
    refine u_last (pc := 36) (dec_at lsk_73 (k := 20) rfl) sx_68 g6 g7 (fun u8 e9 => ?_)
    have h := h u8 e9
    refine u_ld (v := .ref 64) (pc := 37) (dec_at lsk_73 (k := 21) rfl) rfl ?_
    refine u_gS (o := 7) (p := 71) (pc := 38) (dec_at lsk_73 (k := 22) rfl) f_7_35 sx_64 rfl rfl ?_
    refine u_ld (v := .ref 64) (pc := 41) (dec_at lsk_73 (k := 23) rfl) rfl ?_
    refine u_gI (z := 3) (pc := 42) (dec_at lsk_73 (k := 24) rfl) f_7_75 sx_64 rfl rfl ?_
    refine u_ld (v := iV l4) (pc := 45) (dec_at lsk_73 (k := 25) rfl) rfl ?_
    have g10 := h.1
    have h := h.2
    have g11 := h.1
    have h := h.2
    refine u_iast (pc := 47) (dec_at lsk_73 (k := 26) rfl) sx_71 g10 g11 (fun u12 e13 => ?_)
    have h := h u12 e13
    refine u_ld (v := .ref 64) (pc := 48) (dec_at lsk_73 (k := 27) rfl) rfl ?_
    refine u_ld (v := .ref 64) (pc := 49) (dec_at lsk_73 (k := 28) rfl) rfl ?_
    refine u_gI (z := 3) (pc := 50) (dec_at lsk_73 (k := 29) rfl) f_7_75 sx_64 rfl rfl ?_
    refine u_ld (v := iV 1) (pc := 53) (dec_at lsk_73 (k := 30) rfl) rfl ?_
    refine u_iadd (pc := 54) (dec_at lsk_73 (k := 31) rfl) ?_
    refine u_pI (z := 3) (pc := 55) (dec_at lsk_73 (k := 32) rfl) f_7_75 sx_64 rfl rfl rfl rfl (fun u14 e15 => ?_)
    have h := h u14 e15
    refine u_ld (v := .ref 64) (pc := 58) (dec_at lsk_73 (k := 33) rfl) rfl ?_
    refine u_gS (o := 6) (p := 70) (pc := 59) (dec_at lsk_73 (k := 34) rfl) f_7_32 sx_64 rfl rfl ?_
    refine u_ld (v := iV l4) (pc := 62) (dec_at lsk_73 (k := 35) rfl) rfl ?_
    refine u_ld (v := .ref 64) (pc := 64) (dec_at lsk_73 (k := 36) rfl) rfl ?_
    refine u_gI (z := 3) (pc := 65) (dec_at lsk_73 (k := 37) rfl) f_7_75 sx_64 rfl rfl ?_
    have g16 := h.1
    have h := h.2
    have g17 := h.1
    have h := h.2
    refine u_iast (pc := 68) (dec_at lsk_73 (k := 38) rfl) sx_70 g16 g17 (fun u18 e19 => ?_)
    have h := h u18 e19
    refine u_ld (v := .ref 64) (pc := 69) (dec_at lsk_73 (k := 39) rfl) rfl ?_
    refine u_gI (z := 3) (pc := 70) (dec_at lsk_73 (k := 40) rfl) f_7_75 sx_64 rfl rfl ?_
    refine u_ld (v := iV 1) (pc := 73) (dec_at lsk_73 (k := 41) rfl) rfl ?_
    refine u_isub (pc := 74) (dec_at lsk_73 (k := 42) rfl) ?_
    exact u_rI (pc := 75) (dec_at lsk_73 (k := 43) rfl) rfl h
  · have h := ifF e2 h
    refine u_ld (v := .ref 64) (pc := 10) (dec_at lsk_73 (k := 4) rfl) rfl ?_
    refine u_ld (v := iV 1) (pc := 11) (dec_at lsk_73 (k := 5) rfl) rfl ?_
    refine u_pZ (z := 4) (pc := 12) (dec_at lsk_73 (k := 6) rfl) f_7_61 sx_64 rfl rfl rfl rfl (by decide) (fun u20 e21 => ?_)
    have h := h u20 e21
    refine u_ld (v := iV 0) (pc := 15) (dec_at lsk_73 (k := 7) rfl) rfl ?_
    exact u_rI (pc := 16) (dec_at lsk_73 (k := 8) rfl) rfl h
/-- method 74 -/
def K_74 (d pc : Nat) (lv : ev_L) (st : List Value) (u : uS) (Q : Int → uS → Prop) : Prop := okU d 7 9 false (some .int) prog_6_method_4_code (qI Q) pc lv st u
theorem e_74 {d : Nat} {Q : Int → uS → Prop} {u : uS} {l1 l2 l4 : Int} (h : (rI (u.1 64 0)) ∧ (if u.1 64 0 = 0 then ((isO (u.2 64 1) 5) ∧ ((0 ≤ (l1 * 10) + l4) ∧ (((l1 * 10) + l4 < 400) ∧ ((isO (u.2 64 2) 5) ∧ ((0 ≤ ((wI l2) * 10) + l4) ∧ ((((wI l2) * 10) + l4 < 400) ∧ ((rI (u.1 ((u.2 64 2) + 1) (((wI l2) * 10) + l4))) ∧ (cI (d + 1) 72 [.ref 64, iV (u.1 ((u.2 64 1) + 1) ((l1 * 10) + l4)), lV (u.1 ((u.2 64 2) + 1) (((wI l2) * 10) + l4))] u (fun r11 u10 => Q r11 u10))))))))) else (if u.1 64 0 = 1 then ((isO (u.2 64 1) 5) ∧ ((0 ≤ (l1 * 10) + l4) ∧ (((l1 * 10) + l4 < 400) ∧ ((isO (u.2 64 2) 5) ∧ ((0 ≤ ((wI l2) * 10) + l4) ∧ ((((wI l2) * 10) + l4 < 400) ∧ ((rI (u.1 ((u.2 64 2) + 1) (((wI l2) * 10) + l4))) ∧ (cI (d + 1) 72 [.ref 64, iV (u.1 ((u.2 64 1) + 1) ((l1 * 10) + l4)), lV (u.1 ((u.2 64 2) + 1) (((wI l2) * 10) + l4))] u (fun r21 u20 => Q r21 u20))))))))) else (if u.1 64 0 = 2 then ((isO (u.2 64 1) 5) ∧ ((0 ≤ (l1 * 10) + l4) ∧ (((l1 * 10) + l4 < 400) ∧ (if land (lushr (u.1 (u.2 64 1) 1) (u.1 ((u.2 64 1) + 1) ((l1 * 10) + l4))) 1 = 0 then (cL (d + 1) 76 [.ref (u.2 64 2), lV l2, iV l4] u (fun r28 u27 => cI (d + 1) 72 [.ref 64, iV (u.1 ((u.2 64 1) + 1) ((l1 * 10) + l4)), lV (lor r28 0)] u27 (fun r30 u29 => Q r30 u29))) else (cL (d + 1) 76 [.ref (u.2 64 2), lV l2, iV l4] u (fun r32 u31 => cI (d + 1) 72 [.ref 64, iV (u.1 ((u.2 64 1) + 1) ((l1 * 10) + l4)), lV (lor r32 1)] u31 (fun r34 u33 => Q r34 u33))))))) else ((rI l1) ∧ (if l1 = 1 then (cL (d + 1) 76 [.ref (u.2 64 1), lV 1, iV l4] u (fun r38 u37 => (isO (u37.2 64 1) 5) ∧ (if land r38 (u37.1 (u37.2 64 1) 1) = 0 then (cI (d + 1) 72 [.ref 64, iV 0, lV (lor r38 0)] u37 (fun r42 u41 => Q r42 u41)) else (cI (d + 1) 72 [.ref 64, iV 0, lV (lor r38 1)] u37 (fun r44 u43 => Q r44 u43))))) else (cL (d + 1) 76 [.ref (u.2 64 1), lV l2, iV l4] u (fun r46 u45 => (isO (u45.2 64 1) 5) ∧ (if land r46 (u45.1 (u45.2 64 1) 1) = 0 then (cI (d + 1) 72 [.ref 64, iV 0, lV (lor r46 0)] u45 (fun r50 u49 => Q r50 u49)) else (cI (d + 1) 72 [.ref 64, iV 0, lV (lor r46 1)] u45 (fun r52 u51 => Q r52 u51))))))))))) : cI (d + 2) 74 [.ref 64, iV l1, lV l2, iV l4] u Q := by
  refine u_of me_74 (Nat.le_of_ble_eq_true rfl) ?_
  refine u_ld (v := .ref 64) (pc := 0) (dec_at lsk_74 (k := 0) rfl) rfl ?_
  refine u_gI (z := 0) (pc := 1) (dec_at lsk_74 (k := 1) rfl) f_7_57 sx_64 rfl rfl ?_
  have g1 := h.1
  have h := h.2
  refine u_ifT (pc := 4) (tgt := 15) (dec_at lsk_74 (k := 2) rfl) rfl (c0_eq g1) (fun e2 => ?_) (fun e2 => ?_)
  · have h := ifT e2 h
    refine u_ld (v := .ref 64) (pc := 15) (dec_at lsk_74 (k := 7) rfl) rfl ?_
    refine u_ld (v := .ref 64) (pc := 16) (dec_at lsk_74 (k := 8) rfl) rfl ?_
    refine u_gR (z := 1) (pc := 17) (dec_at lsk_74 (k := 9) rfl) f_7_12 sx_64 rfl rfl ?_
    refine u_ld (v := iV l1) (pc := 20) (dec_at lsk_74 (k := 10) rfl) rfl ?_
    refine u_ld (v := iV l4) (pc := 21) (dec_at lsk_74 (k := 11) rfl) rfl ?_
    have g3 := h.1
    have h := h.2
    refine u_cvI (As := [iV l1, iV l4]) (rb := u.2 64 1) (st2 := [.ref 64]) (pc := 23) (dec_at lsk_74 (k := 12) rfl) m_7_90 (Or.inl rfl) rfl (Nat.le_of_ble_eq_true rfl) g3 me_75 rfl ?_ (fun _ _ h_ => h_)
    refine u_of me_75 (Nat.le_of_ble_eq_true rfl) ?_
    refine u_ld (v := .ref (u.2 64 1)) (pc := 0) (dec_at lsk_75 (k := 0) rfl) rfl ?_
    refine u_gS (o := 1) (p := (u.2 64 1) + 1) (pc := 1) (dec_at lsk_75 (k := 1) rfl) f_5_15 g3 rfl rfl ?_
    refine u_ld (v := iV l1) (pc := 4) (dec_at lsk_75 (k := 2) rfl) rfl ?_
    refine u_c (x := 10) (pc := 5) (dec_at lsk_75 (k := 3) rfl) rfl (by decide) ?_
    refine u_imul (pc := 7) (dec_at lsk_75 (k := 4) rfl) ?_
    refine u_ld (v := iV l4) (pc := 8) (dec_at lsk_75 (k := 5) rfl) rfl ?_
    refine u_iadd (pc := 9) (dec_at lsk_75 (k := 6) rfl) ?_
    have g4 := h.1
    have h := h.2
    have g5 := h.1
    have h := h.2
    refine u_iald (pc := 10) (dec_at lsk_75 (k := 7) rfl) (sa_5_2 g3) g4 g5 ?_
    refine u_rI (pc := 11) (dec_at lsk_75 (k := 8) rfl) rfl ?_
    refine u_ld (v := .ref 64) (pc := 26) (dec_at lsk_74 (k := 13) rfl) rfl ?_
    refine u_gR (z := 2) (pc := 27) (dec_at lsk_74 (k := 14) rfl) f_7_18 sx_64 rfl rfl ?_
    refine u_ld (v := lV l2) (pc := 30) (dec_at lsk_74 (k := 15) rfl) rfl ?_
    refine u_l2w (pc := 31) (dec_at lsk_74 (k := 16) rfl) ?_
    refine u_ld (v := iV l4) (pc := 32) (dec_at lsk_74 (k := 17) rfl) rfl ?_
    have g6 := h.1
    have h := h.2
    refine u_cvI (As := [iV (wI l2), iV l4]) (rb := u.2 64 2) (st2 := [iV (u.1 ((u.2 64 1) + 1) ((l1 * 10) + l4)), .ref 64]) (pc := 34) (dec_at lsk_74 (k := 18) rfl) m_7_90 (Or.inl rfl) rfl (Nat.le_of_ble_eq_true rfl) g6 me_75 rfl ?_ (fun _ _ h_ => h_)
    refine u_of me_75 (Nat.le_of_ble_eq_true rfl) ?_
    refine u_ld (v := .ref (u.2 64 2)) (pc := 0) (dec_at lsk_75 (k := 0) rfl) rfl ?_
    refine u_gS (o := 1) (p := (u.2 64 2) + 1) (pc := 1) (dec_at lsk_75 (k := 1) rfl) f_5_15 g6 rfl rfl ?_
    refine u_ld (v := iV (wI l2)) (pc := 4) (dec_at lsk_75 (k := 2) rfl) rfl ?_
    refine u_c (x := 10) (pc := 5) (dec_at lsk_75 (k := 3) rfl) rfl (by decide) ?_
    refine u_imul (pc := 7) (dec_at lsk_75 (k := 4) rfl) ?_
    refine u_ld (v := iV l4) (pc := 8) (dec_at lsk_75 (k := 5) rfl) rfl ?_
    refine u_iadd (pc := 9) (dec_at lsk_75 (k := 6) rfl) ?_
    have g7 := h.1
    have h := h.2
    have g8 := h.1
    have h := h.2
    refine u_iald (pc := 10) (dec_at lsk_75 (k := 7) rfl) (sa_5_2 g6) g7 g8 ?_
    refine u_rI (pc := 11) (dec_at lsk_75 (k := 8) rfl) rfl ?_
    have g9 := h.1
    have h := h.2
    refine u_i2l (pc := 37) (dec_at lsk_74 (k := 19) rfl) g9 ?_
    refine u_cvI (As := [iV (u.1 ((u.2 64 1) + 1) ((l1 * 10) + l4)), lV (u.1 ((u.2 64 2) + 1) (((wI l2) * 10) + l4))]) (rb := 64) (st2 := []) (pc := 38) (dec_at lsk_74 (k := 20) rfl) m_7_82 (Or.inl rfl) rfl (Nat.le_of_ble_eq_true rfl) sx_64 me_72 rfl h (fun r11 u10 h => ?_)
    exact u_rI (pc := 41) (dec_at lsk_74 (k := 21) rfl) rfl h
  · have h := ifF e2 h
    refine u_ld (v := .ref 64) (pc := 7) (dec_at lsk_74 (k := 3) rfl) rfl ?_
    refine u_gI (z := 0) (pc := 8) (dec_at lsk_74 (k := 4) rfl) f_7_57 sx_64 rfl rfl ?_
    refine u_ld (v := iV 1) (pc := 11) (dec_at lsk_74 (k := 5) rfl) rfl ?_
    refine u_icF (pc := 12) (tgt := 42) (dec_at lsk_74 (k := 6) rfl) rfl (ci_ne g1 (by decide)) (fun e12 => ?_) (fun e12 => ?_)
    · have h := ifT e12 h
      refine u_ld (v := .ref 64) (pc := 15) (dec_at lsk_74 (k := 7) rfl) rfl ?_
      refine u_ld (v := .ref 64) (pc := 16) (dec_at lsk_74 (k := 8) rfl) rfl ?_
      refine u_gR (z := 1) (pc := 17) (dec_at lsk_74 (k := 9) rfl) f_7_12 sx_64 rfl rfl ?_
      refine u_ld (v := iV l1) (pc := 20) (dec_at lsk_74 (k := 10) rfl) rfl ?_
      refine u_ld (v := iV l4) (pc := 21) (dec_at lsk_74 (k := 11) rfl) rfl ?_
      have g13 := h.1
      have h := h.2
      refine u_cvI (As := [iV l1, iV l4]) (rb := u.2 64 1) (st2 := [.ref 64]) (pc := 23) (dec_at lsk_74 (k := 12) rfl) m_7_90 (Or.inl rfl) rfl (Nat.le_of_ble_eq_true rfl) g13 me_75 rfl ?_ (fun _ _ h_ => h_)
      refine u_of me_75 (Nat.le_of_ble_eq_true rfl) ?_
      refine u_ld (v := .ref (u.2 64 1)) (pc := 0) (dec_at lsk_75 (k := 0) rfl) rfl ?_
      refine u_gS (o := 1) (p := (u.2 64 1) + 1) (pc := 1) (dec_at lsk_75 (k := 1) rfl) f_5_15 g13 rfl rfl ?_
      refine u_ld (v := iV l1) (pc := 4) (dec_at lsk_75 (k := 2) rfl) rfl ?_
      refine u_c (x := 10) (pc := 5) (dec_at lsk_75 (k := 3) rfl) rfl (by decide) ?_
      refine u_imul (pc := 7) (dec_at lsk_75 (k := 4) rfl) ?_
      refine u_ld (v := iV l4) (pc := 8) (dec_at lsk_75 (k := 5) rfl) rfl ?_
      refine u_iadd (pc := 9) (dec_at lsk_75 (k := 6) rfl) ?_
      have g14 := h.1
      have h := h.2
      have g15 := h.1
      have h := h.2
      refine u_iald (pc := 10) (dec_at lsk_75 (k := 7) rfl) (sa_5_2 g13) g14 g15 ?_
      refine u_rI (pc := 11) (dec_at lsk_75 (k := 8) rfl) rfl ?_
      refine u_ld (v := .ref 64) (pc := 26) (dec_at lsk_74 (k := 13) rfl) rfl ?_
      refine u_gR (z := 2) (pc := 27) (dec_at lsk_74 (k := 14) rfl) f_7_18 sx_64 rfl rfl ?_
      refine u_ld (v := lV l2) (pc := 30) (dec_at lsk_74 (k := 15) rfl) rfl ?_
      refine u_l2w (pc := 31) (dec_at lsk_74 (k := 16) rfl) ?_
      refine u_ld (v := iV l4) (pc := 32) (dec_at lsk_74 (k := 17) rfl) rfl ?_
      have g16 := h.1
      have h := h.2
      refine u_cvI (As := [iV (wI l2), iV l4]) (rb := u.2 64 2) (st2 := [iV (u.1 ((u.2 64 1) + 1) ((l1 * 10) + l4)), .ref 64]) (pc := 34) (dec_at lsk_74 (k := 18) rfl) m_7_90 (Or.inl rfl) rfl (Nat.le_of_ble_eq_true rfl) g16 me_75 rfl ?_ (fun _ _ h_ => h_)
      refine u_of me_75 (Nat.le_of_ble_eq_true rfl) ?_
      refine u_ld (v := .ref (u.2 64 2)) (pc := 0) (dec_at lsk_75 (k := 0) rfl) rfl ?_
      refine u_gS (o := 1) (p := (u.2 64 2) + 1) (pc := 1) (dec_at lsk_75 (k := 1) rfl) f_5_15 g16 rfl rfl ?_
      refine u_ld (v := iV (wI l2)) (pc := 4) (dec_at lsk_75 (k := 2) rfl) rfl ?_
      refine u_c (x := 10) (pc := 5) (dec_at lsk_75 (k := 3) rfl) rfl (by decide) ?_
      refine u_imul (pc := 7) (dec_at lsk_75 (k := 4) rfl) ?_
      refine u_ld (v := iV l4) (pc := 8) (dec_at lsk_75 (k := 5) rfl) rfl ?_
      refine u_iadd (pc := 9) (dec_at lsk_75 (k := 6) rfl) ?_
      have g17 := h.1
      have h := h.2
      have g18 := h.1
      have h := h.2
      refine u_iald (pc := 10) (dec_at lsk_75 (k := 7) rfl) (sa_5_2 g16) g17 g18 ?_
      refine u_rI (pc := 11) (dec_at lsk_75 (k := 8) rfl) rfl ?_
      have g19 := h.1
      have h := h.2
      refine u_i2l (pc := 37) (dec_at lsk_74 (k := 19) rfl) g19 ?_
      refine u_cvI (As := [iV (u.1 ((u.2 64 1) + 1) ((l1 * 10) + l4)), lV (u.1 ((u.2 64 2) + 1) (((wI l2) * 10) + l4))]) (rb := 64) (st2 := []) (pc := 38) (dec_at lsk_74 (k := 20) rfl) m_7_82 (Or.inl rfl) rfl (Nat.le_of_ble_eq_true rfl) sx_64 me_72 rfl h (fun r21 u20 h => ?_)
      exact u_rI (pc := 41) (dec_at lsk_74 (k := 21) rfl) rfl h
    · have h := ifF e12 h
      refine u_ld (v := .ref 64) (pc := 42) (dec_at lsk_74 (k := 22) rfl) rfl ?_
      refine u_gI (z := 0) (pc := 43) (dec_at lsk_74 (k := 23) rfl) f_7_57 sx_64 rfl rfl ?_
      refine u_ld (v := iV 2) (pc := 46) (dec_at lsk_74 (k := 24) rfl) rfl ?_
      refine u_icF (pc := 47) (tgt := 101) (dec_at lsk_74 (k := 25) rfl) rfl (ci_ne g1 (by decide)) (fun e22 => ?_) (fun e22 => ?_)
      · have h := ifT e22 h
        refine u_ld (v := .ref 64) (pc := 50) (dec_at lsk_74 (k := 26) rfl) rfl ?_
        refine u_gR (z := 1) (pc := 51) (dec_at lsk_74 (k := 27) rfl) f_7_12 sx_64 rfl rfl ?_
        refine u_ld (v := iV l1) (pc := 54) (dec_at lsk_74 (k := 28) rfl) rfl ?_
        refine u_ld (v := iV l4) (pc := 55) (dec_at lsk_74 (k := 29) rfl) rfl ?_
        have g23 := h.1
        have h := h.2
        refine u_cvI (As := [iV l1, iV l4]) (rb := u.2 64 1) (st2 := []) (pc := 57) (dec_at lsk_74 (k := 30) rfl) m_7_90 (Or.inl rfl) rfl (Nat.le_of_ble_eq_true rfl) g23 me_75 rfl ?_ (fun _ _ h_ => h_)
        refine u_of me_75 (Nat.le_of_ble_eq_true rfl) ?_
        refine u_ld (v := .ref (u.2 64 1)) (pc := 0) (dec_at lsk_75 (k := 0) rfl) rfl ?_
        refine u_gS (o := 1) (p := (u.2 64 1) + 1) (pc := 1) (dec_at lsk_75 (k := 1) rfl) f_5_15 g23 rfl rfl ?_
        refine u_ld (v := iV l1) (pc := 4) (dec_at lsk_75 (k := 2) rfl) rfl ?_
        refine u_c (x := 10) (pc := 5) (dec_at lsk_75 (k := 3) rfl) rfl (by decide) ?_
        refine u_imul (pc := 7) (dec_at lsk_75 (k := 4) rfl) ?_
        refine u_ld (v := iV l4) (pc := 8) (dec_at lsk_75 (k := 5) rfl) rfl ?_
        refine u_iadd (pc := 9) (dec_at lsk_75 (k := 6) rfl) ?_
        have g24 := h.1
        have h := h.2
        have g25 := h.1
        have h := h.2
        refine u_iald (pc := 10) (dec_at lsk_75 (k := 7) rfl) (sa_5_2 g23) g24 g25 ?_
        refine u_rI (pc := 11) (dec_at lsk_75 (k := 8) rfl) rfl ?_
        refine u_sto (lv' := [.ref 64, iV l1, lV l2, .retAddr 0, iV l4, iV (u.1 ((u.2 64 1) + 1) ((l1 * 10) + l4)), .retAddr 0, .retAddr 0, .retAddr 0]) (pc := 60) (dec_at lsk_74 (k := 31) rfl) rfl ?_
        refine u_ld (v := .ref 64) (pc := 62) (dec_at lsk_74 (k := 32) rfl) rfl ?_
        refine u_gR (z := 1) (pc := 63) (dec_at lsk_74 (k := 33) rfl) f_7_12 sx_64 rfl rfl ?_
        refine u_ld (v := iV (u.1 ((u.2 64 1) + 1) ((l1 * 10) + l4))) (pc := 66) (dec_at lsk_74 (k := 34) rfl) rfl ?_
        refine u_cvI (As := [iV (u.1 ((u.2 64 1) + 1) ((l1 * 10) + l4))]) (rb := u.2 64 1) (st2 := []) (pc := 68) (dec_at lsk_74 (k := 35) rfl) m_7_78 (Or.inl rfl) rfl (Nat.le_of_ble_eq_true rfl) g23 me_71 rfl ?_ (fun _ _ h_ => h_)
        refine u_of me_71 (Nat.le_of_ble_eq_true rfl) ?_
        refine u_ld (v := .ref (u.2 64 1)) (pc := 0) (dec_at lsk_71 (k := 0) rfl) rfl ?_
        refine u_gL (z := 1) (pc := 1) (dec_at lsk_71 (k := 1) rfl) f_5_19 g23 rfl rfl ?_
        refine u_ld (v := iV (u.1 ((u.2 64 1) + 1) ((l1 * 10) + l4))) (pc := 4) (dec_at lsk_71 (k := 2) rfl) rfl ?_
        refine u_lushr (pc := 5) (dec_at lsk_71 (k := 3) rfl) ?_
        refine u_cl (x := 1) (pc := 6) (dec_at lsk_71 (k := 4) rfl) rfl (by decide) ?_
        refine u_land (pc := 7) (dec_at lsk_71 (k := 5) rfl) ?_
        refine u_cl (x := 0) (pc := 8) (dec_at lsk_71 (k := 6) rfl) rfl (by decide) ?_
        refine u_st (st' := [.int (lg_cmp (Int64.ofInt (land (lushr (u.1 (u.2 64 1) 1) (u.1 ((u.2 64 1) + 1) ((l1 * 10) + l4))) 1)) (Int64.ofInt 0))]) (pc := 9) (dec_at lsk_71 (k := 7) rfl) rfl ?_
        refine u_ifT (pc := 10) (tgt := 17) (dec_at lsk_71 (k := 8) rfl) rfl (cl_eq (rl_toInt _) (by decide)) (fun e26 => ?_) (fun e26 => ?_)
        · have h := ifT e26 h
          refine u_ld (v := iV 0) (pc := 17) (dec_at lsk_71 (k := 11) rfl) rfl ?_
          refine u_rZ (pc := 18) (dec_at lsk_71 (k := 12) rfl) rfl (by decide) ?_
          refine u_ifT (pc := 71) (tgt := 78) (dec_at lsk_74 (k := 36) rfl) rfl (c0_eq (by decide)) (fun _ => ?_) (fun e => absurd e (by decide))
          refine u_cl (x := 0) (pc := 78) (dec_at lsk_74 (k := 39) rfl) rfl (by decide) ?_
          refine u_sto (lv' := [.ref 64, iV l1, lV l2, .retAddr 0, iV l4, iV (u.1 ((u.2 64 1) + 1) ((l1 * 10) + l4)), lV 0, .retAddr 0, .retAddr 0]) (pc := 79) (dec_at lsk_74 (k := 40) rfl) rfl ?_
          refine u_ld (v := .ref 64) (pc := 81) (dec_at lsk_74 (k := 41) rfl) rfl ?_
          refine u_ld (v := iV (u.1 ((u.2 64 1) + 1) ((l1 * 10) + l4))) (pc := 82) (dec_at lsk_74 (k := 42) rfl) rfl ?_
          refine u_ld (v := .ref 64) (pc := 84) (dec_at lsk_74 (k := 43) rfl) rfl ?_
          refine u_gR (z := 2) (pc := 85) (dec_at lsk_74 (k := 44) rfl) f_7_18 sx_64 rfl rfl ?_
          refine u_ld (v := lV l2) (pc := 88) (dec_at lsk_74 (k := 45) rfl) rfl ?_
          refine u_ld (v := iV l4) (pc := 89) (dec_at lsk_74 (k := 46) rfl) rfl ?_
          refine u_csL (As := [.ref (u.2 64 2), lV l2, iV l4]) (st2 := [iV (u.1 ((u.2 64 1) + 1) ((l1 * 10) + l4)), .ref 64]) (pc := 91) (dec_at lsk_74 (k := 47) rfl) m_7_94 (Or.inr rfl) rfl (Nat.le_of_ble_eq_true rfl) h (fun r28 u27 h => ?_)
          refine u_ld (v := lV 0) (pc := 94) (dec_at lsk_74 (k := 48) rfl) rfl ?_
          refine u_lor (pc := 96) (dec_at lsk_74 (k := 49) rfl) ?_
          refine u_cvI (As := [iV (u.1 ((u.2 64 1) + 1) ((l1 * 10) + l4)), lV (lor r28 0)]) (rb := 64) (st2 := []) (pc := 97) (dec_at lsk_74 (k := 50) rfl) m_7_82 (Or.inl rfl) rfl (Nat.le_of_ble_eq_true rfl) sx_64 me_72 rfl h (fun r30 u29 h => ?_)
          exact u_rI (pc := 100) (dec_at lsk_74 (k := 51) rfl) rfl h
        · have h := ifF e26 h
          refine u_ld (v := iV 1) (pc := 13) (dec_at lsk_71 (k := 9) rfl) rfl ?_
          refine u_goto (pc := 14) (tgt := 18) (dec_at lsk_71 (k := 10) rfl) rfl ?_
          refine u_rZ (pc := 18) (dec_at lsk_71 (k := 12) rfl) rfl (by decide) ?_
          refine u_ifT (pc := 71) (tgt := 78) (dec_at lsk_74 (k := 36) rfl) rfl (c0_eq (by decide)) (fun e => absurd e (by decide)) (fun _ => ?_)
          refine u_cl (x := 1) (pc := 74) (dec_at lsk_74 (k := 37) rfl) rfl (by decide) ?_
          refine u_goto (pc := 75) (tgt := 79) (dec_at lsk_74 (k := 38) rfl) rfl ?_
          refine u_sto (lv' := [.ref 64, iV l1, lV l2, .retAddr 0, iV l4, iV (u.1 ((u.2 64 1) + 1) ((l1 * 10) + l4)), lV 1, .retAddr 0, .retAddr 0]) (pc := 79) (dec_at lsk_74 (k := 40) rfl) rfl ?_
          refine u_ld (v := .ref 64) (pc := 81) (dec_at lsk_74 (k := 41) rfl) rfl ?_
          refine u_ld (v := iV (u.1 ((u.2 64 1) + 1) ((l1 * 10) + l4))) (pc := 82) (dec_at lsk_74 (k := 42) rfl) rfl ?_
          refine u_ld (v := .ref 64) (pc := 84) (dec_at lsk_74 (k := 43) rfl) rfl ?_
          refine u_gR (z := 2) (pc := 85) (dec_at lsk_74 (k := 44) rfl) f_7_18 sx_64 rfl rfl ?_
          refine u_ld (v := lV l2) (pc := 88) (dec_at lsk_74 (k := 45) rfl) rfl ?_
          refine u_ld (v := iV l4) (pc := 89) (dec_at lsk_74 (k := 46) rfl) rfl ?_
          refine u_csL (As := [.ref (u.2 64 2), lV l2, iV l4]) (st2 := [iV (u.1 ((u.2 64 1) + 1) ((l1 * 10) + l4)), .ref 64]) (pc := 91) (dec_at lsk_74 (k := 47) rfl) m_7_94 (Or.inr rfl) rfl (Nat.le_of_ble_eq_true rfl) h (fun r32 u31 h => ?_)
          refine u_ld (v := lV 1) (pc := 94) (dec_at lsk_74 (k := 48) rfl) rfl ?_
          refine u_lor (pc := 96) (dec_at lsk_74 (k := 49) rfl) ?_
          refine u_cvI (As := [iV (u.1 ((u.2 64 1) + 1) ((l1 * 10) + l4)), lV (lor r32 1)]) (rb := 64) (st2 := []) (pc := 97) (dec_at lsk_74 (k := 50) rfl) m_7_82 (Or.inl rfl) rfl (Nat.le_of_ble_eq_true rfl) sx_64 me_72 rfl h (fun r34 u33 h => ?_)
          exact u_rI (pc := 100) (dec_at lsk_74 (k := 51) rfl) rfl h
      · have h := ifF e22 h
        refine u_ld (v := .ref 64) (pc := 101) (dec_at lsk_74 (k := 52) rfl) rfl ?_
        refine u_gR (z := 1) (pc := 102) (dec_at lsk_74 (k := 53) rfl) f_7_12 sx_64 rfl rfl ?_
        refine u_ld (v := iV l1) (pc := 105) (dec_at lsk_74 (k := 54) rfl) rfl ?_
        refine u_ld (v := iV 1) (pc := 106) (dec_at lsk_74 (k := 55) rfl) rfl ?_
        have g35 := h.1
        have h := h.2
        refine u_icF (pc := 107) (tgt := 114) (dec_at lsk_74 (k := 56) rfl) rfl (ci_ne g35 (by decide)) (fun e36 => ?_) (fun e36 => ?_)
        · have h := ifT e36 h
          refine u_cl (x := 1) (pc := 110) (dec_at lsk_74 (k := 57) rfl) rfl (by decide) ?_
          refine u_goto (pc := 111) (tgt := 115) (dec_at lsk_74 (k := 58) rfl) rfl ?_
          refine u_ld (v := iV l4) (pc := 115) (dec_at lsk_74 (k := 60) rfl) rfl ?_
          refine u_csL (As := [.ref (u.2 64 1), lV 1, iV l4]) (st2 := []) (pc := 117) (dec_at lsk_74 (k := 61) rfl) m_7_94 (Or.inr rfl) rfl (Nat.le_of_ble_eq_true rfl) h (fun r38 u37 h => ?_)
          refine u_sto (lv' := [.ref 64, iV l1, lV l2, .retAddr 0, iV l4, lV r38, .retAddr 0, .retAddr 0, .retAddr 0]) (pc := 120) (dec_at lsk_74 (k := 62) rfl) rfl ?_
          refine u_ld (v := lV r38) (pc := 122) (dec_at lsk_74 (k := 63) rfl) rfl ?_
          refine u_ld (v := .ref 64) (pc := 124) (dec_at lsk_74 (k := 64) rfl) rfl ?_
          refine u_gR (z := 1) (pc := 125) (dec_at lsk_74 (k := 65) rfl) f_7_12 sx_64 rfl rfl ?_
          have g39 := h.1
          have h := h.2
          refine u_gL (z := 1) (pc := 128) (dec_at lsk_74 (k := 66) rfl) f_7_98 g39 rfl rfl ?_
          refine u_land (pc := 131) (dec_at lsk_74 (k := 67) rfl) ?_
          refine u_cl (x := 0) (pc := 132) (dec_at lsk_74 (k := 68) rfl) rfl (by decide) ?_
          refine u_st (st' := [.int (lg_cmp (Int64.ofInt (land r38 (u37.1 (u37.2 64 1) 1))) (Int64.ofInt 0))]) (pc := 133) (dec_at lsk_74 (k := 69) rfl) rfl ?_
          refine u_ifT (pc := 134) (tgt := 141) (dec_at lsk_74 (k := 70) rfl) rfl (cl_eq (rl_toInt _) (by decide)) (fun e40 => ?_) (fun e40 => ?_)
          · have h := ifT e40 h
            refine u_cl (x := 0) (pc := 141) (dec_at lsk_74 (k := 73) rfl) rfl (by decide) ?_
            refine u_sto (lv' := [.ref 64, iV l1, lV l2, .retAddr 0, iV l4, lV r38, .retAddr 0, lV 0, .retAddr 0]) (pc := 142) (dec_at lsk_74 (k := 74) rfl) rfl ?_
            refine u_ld (v := .ref 64) (pc := 144) (dec_at lsk_74 (k := 75) rfl) rfl ?_
            refine u_ld (v := iV 0) (pc := 145) (dec_at lsk_74 (k := 76) rfl) rfl ?_
            refine u_ld (v := lV r38) (pc := 146) (dec_at lsk_74 (k := 77) rfl) rfl ?_
            refine u_ld (v := lV 0) (pc := 148) (dec_at lsk_74 (k := 78) rfl) rfl ?_
            refine u_lor (pc := 150) (dec_at lsk_74 (k := 79) rfl) ?_
            refine u_cvI (As := [iV 0, lV (lor r38 0)]) (rb := 64) (st2 := []) (pc := 151) (dec_at lsk_74 (k := 80) rfl) m_7_82 (Or.inl rfl) rfl (Nat.le_of_ble_eq_true rfl) sx_64 me_72 rfl h (fun r42 u41 h => ?_)
            exact u_rI (pc := 154) (dec_at lsk_74 (k := 81) rfl) rfl h
          · have h := ifF e40 h
            refine u_cl (x := 1) (pc := 137) (dec_at lsk_74 (k := 71) rfl) rfl (by decide) ?_
            refine u_goto (pc := 138) (tgt := 142) (dec_at lsk_74 (k := 72) rfl) rfl ?_
            refine u_sto (lv' := [.ref 64, iV l1, lV l2, .retAddr 0, iV l4, lV r38, .retAddr 0, lV 1, .retAddr 0]) (pc := 142) (dec_at lsk_74 (k := 74) rfl) rfl ?_
            refine u_ld (v := .ref 64) (pc := 144) (dec_at lsk_74 (k := 75) rfl) rfl ?_
            refine u_ld (v := iV 0) (pc := 145) (dec_at lsk_74 (k := 76) rfl) rfl ?_
            refine u_ld (v := lV r38) (pc := 146) (dec_at lsk_74 (k := 77) rfl) rfl ?_
            refine u_ld (v := lV 1) (pc := 148) (dec_at lsk_74 (k := 78) rfl) rfl ?_
            refine u_lor (pc := 150) (dec_at lsk_74 (k := 79) rfl) ?_
            refine u_cvI (As := [iV 0, lV (lor r38 1)]) (rb := 64) (st2 := []) (pc := 151) (dec_at lsk_74 (k := 80) rfl) m_7_82 (Or.inl rfl) rfl (Nat.le_of_ble_eq_true rfl) sx_64 me_72 rfl h (fun r44 u43 h => ?_)
            exact u_rI (pc := 154) (dec_at lsk_74 (k := 81) rfl) rfl h
        · have h := ifF e36 h
          refine u_ld (v := lV l2) (pc := 114) (dec_at lsk_74 (k := 59) rfl) rfl ?_
          refine u_ld (v := iV l4) (pc := 115) (dec_at lsk_74 (k := 60) rfl) rfl ?_
          refine u_csL (As := [.ref (u.2 64 1), lV l2, iV l4]) (st2 := []) (pc := 117) (dec_at lsk_74 (k := 61) rfl) m_7_94 (Or.inr rfl) rfl (Nat.le_of_ble_eq_true rfl) h (fun r46 u45 h => ?_)
          refine u_sto (lv' := [.ref 64, iV l1, lV l2, .retAddr 0, iV l4, lV r46, .retAddr 0, .retAddr 0, .retAddr 0]) (pc := 120) (dec_at lsk_74 (k := 62) rfl) rfl ?_
          refine u_ld (v := lV r46) (pc := 122) (dec_at lsk_74 (k := 63) rfl) rfl ?_
          refine u_ld (v := .ref 64) (pc := 124) (dec_at lsk_74 (k := 64) rfl) rfl ?_
          refine u_gR (z := 1) (pc := 125) (dec_at lsk_74 (k := 65) rfl) f_7_12 sx_64 rfl rfl ?_
          have g47 := h.1
          have h := h.2
          refine u_gL (z := 1) (pc := 128) (dec_at lsk_74 (k := 66) rfl) f_7_98 g47 rfl rfl ?_
          refine u_land (pc := 131) (dec_at lsk_74 (k := 67) rfl) ?_
          refine u_cl (x := 0) (pc := 132) (dec_at lsk_74 (k := 68) rfl) rfl (by decide) ?_
          refine u_st (st' := [.int (lg_cmp (Int64.ofInt (land r46 (u45.1 (u45.2 64 1) 1))) (Int64.ofInt 0))]) (pc := 133) (dec_at lsk_74 (k := 69) rfl) rfl ?_
          refine u_ifT (pc := 134) (tgt := 141) (dec_at lsk_74 (k := 70) rfl) rfl (cl_eq (rl_toInt _) (by decide)) (fun e48 => ?_) (fun e48 => ?_)
          · have h := ifT e48 h
            refine u_cl (x := 0) (pc := 141) (dec_at lsk_74 (k := 73) rfl) rfl (by decide) ?_
            refine u_sto (lv' := [.ref 64, iV l1, lV l2, .retAddr 0, iV l4, lV r46, .retAddr 0, lV 0, .retAddr 0]) (pc := 142) (dec_at lsk_74 (k := 74) rfl) rfl ?_
            refine u_ld (v := .ref 64) (pc := 144) (dec_at lsk_74 (k := 75) rfl) rfl ?_
            refine u_ld (v := iV 0) (pc := 145) (dec_at lsk_74 (k := 76) rfl) rfl ?_
            refine u_ld (v := lV r46) (pc := 146) (dec_at lsk_74 (k := 77) rfl) rfl ?_
            refine u_ld (v := lV 0) (pc := 148) (dec_at lsk_74 (k := 78) rfl) rfl ?_
            refine u_lor (pc := 150) (dec_at lsk_74 (k := 79) rfl) ?_
            refine u_cvI (As := [iV 0, lV (lor r46 0)]) (rb := 64) (st2 := []) (pc := 151) (dec_at lsk_74 (k := 80) rfl) m_7_82 (Or.inl rfl) rfl (Nat.le_of_ble_eq_true rfl) sx_64 me_72 rfl h (fun r50 u49 h => ?_)
            exact u_rI (pc := 154) (dec_at lsk_74 (k := 81) rfl) rfl h
          · have h := ifF e48 h
            refine u_cl (x := 1) (pc := 137) (dec_at lsk_74 (k := 71) rfl) rfl (by decide) ?_
            refine u_goto (pc := 138) (tgt := 142) (dec_at lsk_74 (k := 72) rfl) rfl ?_
            refine u_sto (lv' := [.ref 64, iV l1, lV l2, .retAddr 0, iV l4, lV r46, .retAddr 0, lV 1, .retAddr 0]) (pc := 142) (dec_at lsk_74 (k := 74) rfl) rfl ?_
            refine u_ld (v := .ref 64) (pc := 144) (dec_at lsk_74 (k := 75) rfl) rfl ?_
            refine u_ld (v := iV 0) (pc := 145) (dec_at lsk_74 (k := 76) rfl) rfl ?_
            refine u_ld (v := lV r46) (pc := 146) (dec_at lsk_74 (k := 77) rfl) rfl ?_
            refine u_ld (v := lV 1) (pc := 148) (dec_at lsk_74 (k := 78) rfl) rfl ?_
            refine u_lor (pc := 150) (dec_at lsk_74 (k := 79) rfl) ?_
            refine u_cvI (As := [iV 0, lV (lor r46 1)]) (rb := 64) (st2 := []) (pc := 151) (dec_at lsk_74 (k := 80) rfl) m_7_82 (Or.inl rfl) rfl (Nat.le_of_ble_eq_true rfl) sx_64 me_72 rfl h (fun r52 u51 h => ?_)
            exact u_rI (pc := 154) (dec_at lsk_74 (k := 81) rfl) rfl h
/-- method 79 -/
def K_79 (d pc : Nat) (lv : ev_L) (st : List Value) (u : uS) (Q : uS → Prop) : Prop := okU d 7 4 false none prog_6_method_8_code (qV Q) pc lv st u
theorem e_79 {d : Nat} {Q : uS → Prop} {u : uS} (h : ∀ u1 : uS, u1 = wr u 64 14 1 → (K_79 d 7 [.ref 64, iV 0, .retAddr 0, .retAddr 0] [] u1 Q)) : cV (d + 1) 79 [.ref 64] u Q := by
  refine u_of me_79 (Nat.le_of_ble_eq_true rfl) ?_
  refine u_ld (v := .ref 64) (pc := 0) (dec_at lsk_79 (k := 0) rfl) rfl ?_
  refine u_ld (v := iV 1) (pc := 1) (dec_at lsk_79 (k := 1) rfl) rfl ?_
  refine u_pI (z := 14) (pc := 2) (dec_at lsk_79 (k := 2) rfl) f_7_109 sx_64 rfl rfl rfl rfl (fun u1 e2 => ?_)
  have h := h u1 e2
  refine u_ld (v := iV 0) (pc := 5) (dec_at lsk_79 (k := 3) rfl) rfl ?_
  refine u_sto (lv' := [.ref 64, iV 0, .retAddr 0, .retAddr 0]) (pc := 6) (dec_at lsk_79 (k := 4) rfl) rfl ?_
  exact h
theorem k_79_7 {d : Nat} {Q : uS → Prop} {u : uS} {l1 : Int} (h : (rI l1) ∧ ((rI (u.1 64 3)) ∧ (if l1 < u.1 64 3 then (cI d 80 [.ref 64, iV l1] u (fun r5 u4 => (0 ≤ l1) ∧ ((l1 < 2000) ∧ ((r5 = 0 ∨ r5 = 1) ∧ (∀ u9 : uS, u9 = wr u4 72 l1 r5 → ((rI (u9.1 72 l1)) ∧ ((rI (u9.1 72 0)) ∧ (if u9.1 72 l1 = u9.1 72 0 then (∀ u14 : uS, u14 = wr u9 73 l1 0 → ((rI (u14.1 64 14)) ∧ ((rI ((u14.1 73 l1) + 1)) ∧ (∀ u18 : uS, u18 = wr u14 64 14 (max (u14.1 64 14) ((u14.1 73 l1) + 1)) → (K_79 d 7 [.ref 64, iV (l1 + 1), .retAddr 0, .retAddr 0] [] u18 Q))))) else (∀ u20 : uS, u20 = wr u9 73 l1 1 → ((rI (u20.1 64 14)) ∧ ((rI ((u20.1 73 l1) + 1)) ∧ (∀ u24 : uS, u24 = wr u20 64 14 (max (u20.1 64 14) ((u20.1 73 l1) + 1)) → (K_79 d 7 [.ref 64, iV (l1 + 1), .retAddr 0, .retAddr 0] [] u24 Q))))))))))))) else (K_79 d 81 [.ref 64, iV 0, iV 0, .retAddr 0] [] u Q)))) : K_79 d 7 [.ref 64, iV l1, .retAddr 0, .retAddr 0] [] u Q := by
  unfold K_79
  refine u_ld (v := iV l1) (pc := 7) (dec_at lsk_79 (k := 5) rfl) rfl ?_
  refine u_ld (v := .ref 64) (pc := 8) (dec_at lsk_79 (k := 6) rfl) rfl ?_
  refine u_gI (z := 3) (pc := 9) (dec_at lsk_79 (k := 7) rfl) f_7_75 sx_64 rfl rfl ?_
  have g1 := h.1
  have h := h.2
  have g2 := h.1
  have h := h.2
  refine u_icF (pc := 12) (tgt := 77) (dec_at lsk_79 (k := 8) rfl) rfl (ci_ge g1 g2) (fun e3 => ?_) (fun e3 => ?_)
  · have h := ifT e3 h
    refine u_ld (v := .ref 64) (pc := 15) (dec_at lsk_79 (k := 9) rfl) rfl ?_
    refine u_gS (o := 8) (p := 72) (pc := 16) (dec_at lsk_79 (k := 10) rfl) f_7_38 sx_64 rfl rfl ?_
    refine u_ld (v := iV l1) (pc := 19) (dec_at lsk_79 (k := 11) rfl) rfl ?_
    refine u_ld (v := .ref 64) (pc := 20) (dec_at lsk_79 (k := 12) rfl) rfl ?_
    refine u_ld (v := iV l1) (pc := 21) (dec_at lsk_79 (k := 13) rfl) rfl ?_
    refine u_cvI (As := [iV l1]) (rb := 64) (st2 := [iV l1, .ref 72]) (pc := 22) (dec_at lsk_79 (k := 14) rfl) m_7_112 (Or.inl rfl) rfl (Nat.le_of_ble_eq_true rfl) sx_64 me_80 rfl h (fun r5 u4 h => ?_)
    have g6 := h.1
    have h := h.2
    have g7 := h.1
    have h := h.2
    have g8 := h.1
    have h := h.2
    refine u_zast (pc := 25) (dec_at lsk_79 (k := 15) rfl) sx_72 g6 g7 g8 (fun u9 e10 => ?_)
    have h := h u9 e10
    refine u_ld (v := .ref 64) (pc := 26) (dec_at lsk_79 (k := 16) rfl) rfl ?_
    refine u_gS (o := 9) (p := 73) (pc := 27) (dec_at lsk_79 (k := 17) rfl) f_7_42 sx_64 rfl rfl ?_
    refine u_ld (v := iV l1) (pc := 30) (dec_at lsk_79 (k := 18) rfl) rfl ?_
    refine u_ld (v := .ref 64) (pc := 31) (dec_at lsk_79 (k := 19) rfl) rfl ?_
    refine u_gS (o := 8) (p := 72) (pc := 32) (dec_at lsk_79 (k := 20) rfl) f_7_38 sx_64 rfl rfl ?_
    refine u_ld (v := iV l1) (pc := 35) (dec_at lsk_79 (k := 21) rfl) rfl ?_
    refine u_zald (pc := 36) (dec_at lsk_79 (k := 22) rfl) sx_72 g6 g7 ?_
    refine u_ld (v := .ref 64) (pc := 37) (dec_at lsk_79 (k := 23) rfl) rfl ?_
    refine u_gS (o := 8) (p := 72) (pc := 38) (dec_at lsk_79 (k := 24) rfl) f_7_38 sx_64 rfl rfl ?_
    refine u_ld (v := iV 0) (pc := 41) (dec_at lsk_79 (k := 25) rfl) rfl ?_
    refine u_zald (pc := 42) (dec_at lsk_79 (k := 26) rfl) sx_72 (by decide) (by decide) ?_
    have g11 := h.1
    have h := h.2
    have g12 := h.1
    have h := h.2
    refine u_icF (pc := 43) (tgt := 50) (dec_at lsk_79 (k := 27) rfl) rfl (ci_ne g11 g12) (fun e13 => ?_) (fun e13 => ?_)
    · have h := ifT e13 h
      refine u_ld (v := iV 0) (pc := 46) (dec_at lsk_79 (k := 28) rfl) rfl ?_
      refine u_goto (pc := 47) (tgt := 51) (dec_at lsk_79 (k := 29) rfl) rfl ?_
      refine u_iast (pc := 51) (dec_at lsk_79 (k := 31) rfl) sx_73 g6 g7 (fun u14 e15 => ?_)
      have h := h u14 e15
      refine u_ld (v := .ref 64) (pc := 52) (dec_at lsk_79 (k := 32) rfl) rfl ?_
      refine u_ld (v := .ref 64) (pc := 53) (dec_at lsk_79 (k := 33) rfl) rfl ?_
      refine u_gI (z := 14) (pc := 54) (dec_at lsk_79 (k := 34) rfl) f_7_109 sx_64 rfl rfl ?_
      refine u_ld (v := .ref 64) (pc := 57) (dec_at lsk_79 (k := 35) rfl) rfl ?_
      refine u_gS (o := 9) (p := 73) (pc := 58) (dec_at lsk_79 (k := 36) rfl) f_7_42 sx_64 rfl rfl ?_
      refine u_ld (v := iV l1) (pc := 61) (dec_at lsk_79 (k := 37) rfl) rfl ?_
      refine u_iald (pc := 62) (dec_at lsk_79 (k := 38) rfl) sx_73 g6 g7 ?_
      refine u_ld (v := iV 1) (pc := 63) (dec_at lsk_79 (k := 39) rfl) rfl ?_
      refine u_iadd (pc := 64) (dec_at lsk_79 (k := 40) rfl) ?_
      have g16 := h.1
      have h := h.2
      have g17 := h.1
      have h := h.2
      refine u_max (pc := 65) (dec_at lsk_79 (k := 41) rfl) m_7_115 g16 g17 (Nat.le_of_ble_eq_true rfl) ?_
      refine u_pI (z := 14) (pc := 68) (dec_at lsk_79 (k := 42) rfl) f_7_109 sx_64 rfl rfl rfl rfl (fun u18 e19 => ?_)
      have h := h u18 e19
      refine u_inc (lv' := [.ref 64, iV (l1 + 1), .retAddr 0, .retAddr 0]) (pc := 71) (dec_at lsk_79 (k := 43) rfl) rfl (by decide) rfl ?_
      refine u_goto (pc := 74) (tgt := 7) (dec_at lsk_79 (k := 44) rfl) rfl ?_
      exact h
    · have h := ifF e13 h
      refine u_ld (v := iV 1) (pc := 50) (dec_at lsk_79 (k := 30) rfl) rfl ?_
      refine u_iast (pc := 51) (dec_at lsk_79 (k := 31) rfl) sx_73 g6 g7 (fun u20 e21 => ?_)
      have h := h u20 e21
      refine u_ld (v := .ref 64) (pc := 52) (dec_at lsk_79 (k := 32) rfl) rfl ?_
      refine u_ld (v := .ref 64) (pc := 53) (dec_at lsk_79 (k := 33) rfl) rfl ?_
      refine u_gI (z := 14) (pc := 54) (dec_at lsk_79 (k := 34) rfl) f_7_109 sx_64 rfl rfl ?_
      refine u_ld (v := .ref 64) (pc := 57) (dec_at lsk_79 (k := 35) rfl) rfl ?_
      refine u_gS (o := 9) (p := 73) (pc := 58) (dec_at lsk_79 (k := 36) rfl) f_7_42 sx_64 rfl rfl ?_
      refine u_ld (v := iV l1) (pc := 61) (dec_at lsk_79 (k := 37) rfl) rfl ?_
      refine u_iald (pc := 62) (dec_at lsk_79 (k := 38) rfl) sx_73 g6 g7 ?_
      refine u_ld (v := iV 1) (pc := 63) (dec_at lsk_79 (k := 39) rfl) rfl ?_
      refine u_iadd (pc := 64) (dec_at lsk_79 (k := 40) rfl) ?_
      have g22 := h.1
      have h := h.2
      have g23 := h.1
      have h := h.2
      refine u_max (pc := 65) (dec_at lsk_79 (k := 41) rfl) m_7_115 g22 g23 (Nat.le_of_ble_eq_true rfl) ?_
      refine u_pI (z := 14) (pc := 68) (dec_at lsk_79 (k := 42) rfl) f_7_109 sx_64 rfl rfl rfl rfl (fun u24 e25 => ?_)
      have h := h u24 e25
      refine u_inc (lv' := [.ref 64, iV (l1 + 1), .retAddr 0, .retAddr 0]) (pc := 71) (dec_at lsk_79 (k := 43) rfl) rfl (by decide) rfl ?_
      refine u_goto (pc := 74) (tgt := 7) (dec_at lsk_79 (k := 44) rfl) rfl ?_
      exact h
  · have h := ifF e3 h
    refine u_ld (v := iV 0) (pc := 77) (dec_at lsk_79 (k := 45) rfl) rfl ?_
    refine u_sto (lv' := [.ref 64, iV 0, .retAddr 0, .retAddr 0]) (pc := 78) (dec_at lsk_79 (k := 46) rfl) rfl ?_
    refine u_ld (v := iV 0) (pc := 79) (dec_at lsk_79 (k := 47) rfl) rfl ?_
    refine u_sto (lv' := [.ref 64, iV 0, iV 0, .retAddr 0]) (pc := 80) (dec_at lsk_79 (k := 48) rfl) rfl ?_
    exact h
theorem k_79_81 {d : Nat} {Q : uS → Prop} {u : uS} {l1 l2 : Int} (h : (rI l1) ∧ (if l1 < 10 then ((rI (u.1 64 4)) ∧ (if u.1 64 4 = 0 then ((rI l2) ∧ (if l2 < 410 then (cV d 82 [.ref 64, iV (l2.tmod 10)] u (fun u7 => (rI (u7.1 64 14)) ∧ ((rI (u.1 64 14)) ∧ (if u7.1 64 14 = u.1 64 14 then (K_79 d 81 [.ref 64, iV (l1 + 1), iV (l2 + 1), .retAddr 0] [] u7 Q) else (K_79 d 81 [.ref 64, iV 0, iV (l2 + 1), .retAddr 0] [] u7 Q))))) else (Q u))) else (Q u))) else (Q u))) : K_79 d 81 [.ref 64, iV l1, iV l2, .retAddr 0] [] u Q := by
  unfold K_79
  refine u_ld (v := iV l1) (pc := 81) (dec_at lsk_79 (k := 49) rfl) rfl ?_
  refine u_c (x := 10) (pc := 82) (dec_at lsk_79 (k := 50) rfl) rfl (by decide) ?_
  have g1 := h.1
  have h := h.2
  refine u_icF (pc := 84) (tgt := 136) (dec_at lsk_79 (k := 51) rfl) rfl (ci_ge g1 (by decide)) (fun e2 => ?_) (fun e2 => ?_)
  · have h := ifT e2 h
    refine u_ld (v := .ref 64) (pc := 87) (dec_at lsk_79 (k := 52) rfl) rfl ?_
    refine u_gZ (z := 4) (pc := 88) (dec_at lsk_79 (k := 53) rfl) f_7_61 sx_64 rfl rfl ?_
    have g3 := h.1
    have h := h.2
    refine u_ifF (pc := 91) (tgt := 136) (dec_at lsk_79 (k := 54) rfl) rfl (c0_ne g3) (fun e4 => ?_) (fun e4 => ?_)
    · have h := ifT e4 h
      refine u_ld (v := iV l2) (pc := 94) (dec_at lsk_79 (k := 55) rfl) rfl ?_
      refine u_c (x := 410) (pc := 95) (dec_at lsk_79 (k := 56) rfl) rfl (by decide) ?_
      have g5 := h.1
      have h := h.2
      refine u_icF (pc := 98) (tgt := 136) (dec_at lsk_79 (k := 57) rfl) rfl (ci_ge g5 (by decide)) (fun e6 => ?_) (fun e6 => ?_)
      · have h := ifT e6 h
        refine u_ld (v := .ref 64) (pc := 101) (dec_at lsk_79 (k := 58) rfl) rfl ?_
        refine u_gI (z := 14) (pc := 102) (dec_at lsk_79 (k := 59) rfl) f_7_109 sx_64 rfl rfl ?_
        refine u_sto (lv' := [.ref 64, iV l1, iV l2, iV (u.1 64 14)]) (pc := 105) (dec_at lsk_79 (k := 60) rfl) rfl ?_
        refine u_ld (v := .ref 64) (pc := 106) (dec_at lsk_79 (k := 61) rfl) rfl ?_
        refine u_ld (v := iV l2) (pc := 107) (dec_at lsk_79 (k := 62) rfl) rfl ?_
        refine u_c (x := 10) (pc := 108) (dec_at lsk_79 (k := 63) rfl) rfl (by decide) ?_
        refine u_irem (pc := 110) (dec_at lsk_79 (k := 64) rfl) g5 (by decide) (by decide) ?_
        refine u_cvV (As := [iV (l2.tmod 10)]) (rb := 64) (st2 := []) (pc := 111) (dec_at lsk_79 (k := 65) rfl) m_7_120 (Or.inl rfl) rfl (Nat.le_of_ble_eq_true rfl) sx_64 me_82 rfl h (fun u7 h => ?_)
        refine u_ld (v := .ref 64) (pc := 114) (dec_at lsk_79 (k := 66) rfl) rfl ?_
        refine u_gI (z := 14) (pc := 115) (dec_at lsk_79 (k := 67) rfl) f_7_109 sx_64 rfl rfl ?_
        refine u_ld (v := iV (u.1 64 14)) (pc := 118) (dec_at lsk_79 (k := 68) rfl) rfl ?_
        have g8 := h.1
        have h := h.2
        have g9 := h.1
        have h := h.2
        refine u_icF (pc := 119) (tgt := 128) (dec_at lsk_79 (k := 69) rfl) rfl (ci_ne g8 g9) (fun e10 => ?_) (fun e10 => ?_)
        · have h := ifT e10 h
          refine u_ld (v := iV l1) (pc := 122) (dec_at lsk_79 (k := 70) rfl) rfl ?_
          refine u_ld (v := iV 1) (pc := 123) (dec_at lsk_79 (k := 71) rfl) rfl ?_
          refine u_iadd (pc := 124) (dec_at lsk_79 (k := 72) rfl) ?_
          refine u_goto (pc := 125) (tgt := 129) (dec_at lsk_79 (k := 73) rfl) rfl ?_
          refine u_sto (lv' := [.ref 64, iV (l1 + 1), iV l2, iV (u.1 64 14)]) (pc := 129) (dec_at lsk_79 (k := 75) rfl) rfl ?_
          refine u_inc (lv' := [.ref 64, iV (l1 + 1), iV (l2 + 1), iV (u.1 64 14)]) (pc := 130) (dec_at lsk_79 (k := 76) rfl) rfl (by decide) rfl ?_
          refine u_goto (pc := 133) (tgt := 81) (dec_at lsk_79 (k := 77) rfl) rfl ?_
          exact u_weak (sbK (sbK (sbK (sbD sb0)))) h
        · have h := ifF e10 h
          refine u_ld (v := iV 0) (pc := 128) (dec_at lsk_79 (k := 74) rfl) rfl ?_
          refine u_sto (lv' := [.ref 64, iV 0, iV l2, iV (u.1 64 14)]) (pc := 129) (dec_at lsk_79 (k := 75) rfl) rfl ?_
          refine u_inc (lv' := [.ref 64, iV 0, iV (l2 + 1), iV (u.1 64 14)]) (pc := 130) (dec_at lsk_79 (k := 76) rfl) rfl (by decide) rfl ?_
          refine u_goto (pc := 133) (tgt := 81) (dec_at lsk_79 (k := 77) rfl) rfl ?_
          exact u_weak (sbK (sbK (sbK (sbD sb0)))) h
      · have h := ifF e6 h
        exact u_rV (pc := 136) (dec_at lsk_79 (k := 78) rfl) rfl h
    · have h := ifF e4 h
      exact u_rV (pc := 136) (dec_at lsk_79 (k := 78) rfl) rfl h
  · have h := ifF e2 h
    exact u_rV (pc := 136) (dec_at lsk_79 (k := 78) rfl) rfl h
/-- method 80 -/
def K_80 (d pc : Nat) (lv : ev_L) (st : List Value) (u : uS) (Q : Int → uS → Prop) : Prop := okU d 7 5 false (some .boolean) prog_6_method_5_code (qI Q) pc lv st u
theorem e_80 {d : Nat} {Q : Int → uS → Prop} {u : uS} {l1 : Int} (h : (0 ≤ l1) ∧ ((l1 < 2000) ∧ ((rI (u.1 64 0)) ∧ (if u.1 64 0 = 0 then ((isO (u.2 64 1) 5) ∧ (if land (lushr (u.1 (u.2 64 1) 1) (u.1 67 l1)) 1 = 0 then ((isO (u.2 64 2) 5) ∧ (if land (lushr (u.1 (u.2 64 2) 1) (wI (u.1 68 l1))) 1 = 0 then (Q 0 u) else (Q 1 u))) else (Q 1 u))) else (if u.1 64 0 = 1 then ((isO (u.2 64 1) 5) ∧ (if land (lushr (u.1 (u.2 64 1) 1) (u.1 67 l1)) 1 = 0 then (Q 0 u) else ((isO (u.2 64 2) 5) ∧ (if land (lushr (u.1 (u.2 64 2) 1) (wI (u.1 68 l1))) 1 = 0 then (Q 0 u) else (Q 1 u))))) else (if u.1 64 0 = 2 then ((isO (u.2 64 2) 5) ∧ (if land (u.1 68 l1) (u.1 (u.2 64 2) 1) = 0 then (Q 0 u) else (Q 1 u))) else ((rI (u.1 67 l1)) ∧ (if u.1 67 l1 = 1 then (Q 1 u) else ((isO (u.2 64 1) 5) ∧ (if land (u.1 68 l1) (u.1 (u.2 64 1) 1) = 0 then (Q 0 u) else (Q 1 u))))))))))) : cI (d + 2) 80 [.ref 64, iV l1] u Q := by
  refine u_of me_80 (Nat.le_of_ble_eq_true rfl) ?_
  refine u_ld (v := .ref 64) (pc := 0) (dec_at lsk_80 (k := 0) rfl) rfl ?_
  refine u_gS (o := 3) (p := 67) (pc := 1) (dec_at lsk_80 (k := 1) rfl) f_7_21 sx_64 rfl rfl ?_
  refine u_ld (v := iV l1) (pc := 4) (dec_at lsk_80 (k := 2) rfl) rfl ?_
  have g1 := h.1
  have h := h.2
  have g2 := h.1
  have h := h.2
  refine u_iald (pc := 5) (dec_at lsk_80 (k := 3) rfl) sx_67 g1 g2 ?_
  refine u_sto (lv' := [.ref 64, iV l1, iV (u.1 67 l1), .retAddr 0, .retAddr 0]) (pc := 6) (dec_at lsk_80 (k := 4) rfl) rfl ?_
  refine u_ld (v := .ref 64) (pc := 7) (dec_at lsk_80 (k := 5) rfl) rfl ?_
  refine u_gS (o := 4) (p := 68) (pc := 8) (dec_at lsk_80 (k := 6) rfl) f_7_25 sx_64 rfl rfl ?_
  refine u_ld (v := iV l1) (pc := 11) (dec_at lsk_80 (k := 7) rfl) rfl ?_
  refine u_lald (pc := 12) (dec_at lsk_80 (k := 8) rfl) sx_68 g1 g2 ?_
  refine u_sto (lv' := [.ref 64, iV l1, iV (u.1 67 l1), lV (u.1 68 l1), .retAddr 0]) (pc := 13) (dec_at lsk_80 (k := 9) rfl) rfl ?_
  refine u_ld (v := .ref 64) (pc := 14) (dec_at lsk_80 (k := 10) rfl) rfl ?_
  refine u_gI (z := 0) (pc := 15) (dec_at lsk_80 (k := 11) rfl) f_7_57 sx_64 rfl rfl ?_
  have g3 := h.1
  have h := h.2
  by_cases e4 : u.1 64 0 = 0
  · have h := ifT e4 h
    refine u_ts (pc := 18) (tgt := 44) (o := 26) (dec_at lsk_80 (k := 12) rfl) g3 (by omega) (by rw [e4]; rfl) rfl ?_
    refine u_ld (v := .ref 64) (pc := 44) (dec_at lsk_80 (k := 13) rfl) rfl ?_
    refine u_gR (z := 1) (pc := 45) (dec_at lsk_80 (k := 14) rfl) f_7_12 sx_64 rfl rfl ?_
    refine u_ld (v := iV (u.1 67 l1)) (pc := 48) (dec_at lsk_80 (k := 15) rfl) rfl ?_
    have g5 := h.1
    have h := h.2
    refine u_cvI (As := [iV (u.1 67 l1)]) (rb := u.2 64 1) (st2 := []) (pc := 49) (dec_at lsk_80 (k := 16) rfl) m_7_78 (Or.inl rfl) rfl (Nat.le_of_ble_eq_true rfl) g5 me_71 rfl ?_ (fun _ _ h_ => h_)
    refine u_of me_71 (Nat.le_of_ble_eq_true rfl) ?_
    refine u_ld (v := .ref (u.2 64 1)) (pc := 0) (dec_at lsk_71 (k := 0) rfl) rfl ?_
    refine u_gL (z := 1) (pc := 1) (dec_at lsk_71 (k := 1) rfl) f_5_19 g5 rfl rfl ?_
    refine u_ld (v := iV (u.1 67 l1)) (pc := 4) (dec_at lsk_71 (k := 2) rfl) rfl ?_
    refine u_lushr (pc := 5) (dec_at lsk_71 (k := 3) rfl) ?_
    refine u_cl (x := 1) (pc := 6) (dec_at lsk_71 (k := 4) rfl) rfl (by decide) ?_
    refine u_land (pc := 7) (dec_at lsk_71 (k := 5) rfl) ?_
    refine u_cl (x := 0) (pc := 8) (dec_at lsk_71 (k := 6) rfl) rfl (by decide) ?_
    refine u_st (st' := [.int (lg_cmp (Int64.ofInt (land (lushr (u.1 (u.2 64 1) 1) (u.1 67 l1)) 1)) (Int64.ofInt 0))]) (pc := 9) (dec_at lsk_71 (k := 7) rfl) rfl ?_
    refine u_ifT (pc := 10) (tgt := 17) (dec_at lsk_71 (k := 8) rfl) rfl (cl_eq (rl_toInt _) (by decide)) (fun e6 => ?_) (fun e6 => ?_)
    · have h := ifT e6 h
      refine u_ld (v := iV 0) (pc := 17) (dec_at lsk_71 (k := 11) rfl) rfl ?_
      refine u_rZ (pc := 18) (dec_at lsk_71 (k := 12) rfl) rfl (by decide) ?_
      refine u_ifF (pc := 52) (tgt := 67) (dec_at lsk_80 (k := 17) rfl) rfl (c0_ne (by decide)) (fun _ => ?_) (fun e => absurd e (by decide))
      refine u_ld (v := .ref 64) (pc := 55) (dec_at lsk_80 (k := 18) rfl) rfl ?_
      refine u_gR (z := 2) (pc := 56) (dec_at lsk_80 (k := 19) rfl) f_7_18 sx_64 rfl rfl ?_
      refine u_ld (v := lV (u.1 68 l1)) (pc := 59) (dec_at lsk_80 (k := 20) rfl) rfl ?_
      refine u_l2w (pc := 60) (dec_at lsk_80 (k := 21) rfl) ?_
      have g7 := h.1
      have h := h.2
      refine u_cvI (As := [iV (wI (u.1 68 l1))]) (rb := u.2 64 2) (st2 := []) (pc := 61) (dec_at lsk_80 (k := 22) rfl) m_7_78 (Or.inl rfl) rfl (Nat.le_of_ble_eq_true rfl) g7 me_71 rfl ?_ (fun _ _ h_ => h_)
      refine u_of me_71 (Nat.le_of_ble_eq_true rfl) ?_
      refine u_ld (v := .ref (u.2 64 2)) (pc := 0) (dec_at lsk_71 (k := 0) rfl) rfl ?_
      refine u_gL (z := 1) (pc := 1) (dec_at lsk_71 (k := 1) rfl) f_5_19 g7 rfl rfl ?_
      refine u_ld (v := iV (wI (u.1 68 l1))) (pc := 4) (dec_at lsk_71 (k := 2) rfl) rfl ?_
      refine u_lushr (pc := 5) (dec_at lsk_71 (k := 3) rfl) ?_
      refine u_cl (x := 1) (pc := 6) (dec_at lsk_71 (k := 4) rfl) rfl (by decide) ?_
      refine u_land (pc := 7) (dec_at lsk_71 (k := 5) rfl) ?_
      refine u_cl (x := 0) (pc := 8) (dec_at lsk_71 (k := 6) rfl) rfl (by decide) ?_
      refine u_st (st' := [.int (lg_cmp (Int64.ofInt (land (lushr (u.1 (u.2 64 2) 1) (wI (u.1 68 l1))) 1)) (Int64.ofInt 0))]) (pc := 9) (dec_at lsk_71 (k := 7) rfl) rfl ?_
      refine u_ifT (pc := 10) (tgt := 17) (dec_at lsk_71 (k := 8) rfl) rfl (cl_eq (rl_toInt _) (by decide)) (fun e8 => ?_) (fun e8 => ?_)
      · have h := ifT e8 h
        refine u_ld (v := iV 0) (pc := 17) (dec_at lsk_71 (k := 11) rfl) rfl ?_
        refine u_rZ (pc := 18) (dec_at lsk_71 (k := 12) rfl) rfl (by decide) ?_
        refine u_ifT (pc := 64) (tgt := 71) (dec_at lsk_80 (k := 23) rfl) rfl (c0_eq (by decide)) (fun _ => ?_) (fun e => absurd e (by decide))
        refine u_ld (v := iV 0) (pc := 71) (dec_at lsk_80 (k := 26) rfl) rfl ?_
        exact u_rZ (pc := 72) (dec_at lsk_80 (k := 27) rfl) rfl (by decide) h
      · have h := ifF e8 h
        refine u_ld (v := iV 1) (pc := 13) (dec_at lsk_71 (k := 9) rfl) rfl ?_
        refine u_goto (pc := 14) (tgt := 18) (dec_at lsk_71 (k := 10) rfl) rfl ?_
        refine u_rZ (pc := 18) (dec_at lsk_71 (k := 12) rfl) rfl (by decide) ?_
        refine u_ifT (pc := 64) (tgt := 71) (dec_at lsk_80 (k := 23) rfl) rfl (c0_eq (by decide)) (fun e => absurd e (by decide)) (fun _ => ?_)
        refine u_ld (v := iV 1) (pc := 67) (dec_at lsk_80 (k := 24) rfl) rfl ?_
        refine u_goto (pc := 68) (tgt := 72) (dec_at lsk_80 (k := 25) rfl) rfl ?_
        exact u_rZ (pc := 72) (dec_at lsk_80 (k := 27) rfl) rfl (by decide) h
    · have h := ifF e6 h
      refine u_ld (v := iV 1) (pc := 13) (dec_at lsk_71 (k := 9) rfl) rfl ?_
      refine u_goto (pc := 14) (tgt := 18) (dec_at lsk_71 (k := 10) rfl) rfl ?_
      refine u_rZ (pc := 18) (dec_at lsk_71 (k := 12) rfl) rfl (by decide) ?_
      refine u_ifF (pc := 52) (tgt := 67) (dec_at lsk_80 (k := 17) rfl) rfl (c0_ne (by decide)) (fun e => absurd e (by decide)) (fun _ => ?_)
      refine u_ld (v := iV 1) (pc := 67) (dec_at lsk_80 (k := 24) rfl) rfl ?_
      refine u_goto (pc := 68) (tgt := 72) (dec_at lsk_80 (k := 25) rfl) rfl ?_
      exact u_rZ (pc := 72) (dec_at lsk_80 (k := 27) rfl) rfl (by decide) h
  · have h := ifF e4 h
    by_cases e9 : u.1 64 0 = 1
    · have h := ifT e9 h
      refine u_ts (pc := 18) (tgt := 73) (o := 55) (dec_at lsk_80 (k := 12) rfl) g3 (by omega) (by rw [e9]; rfl) rfl ?_
      refine u_ld (v := .ref 64) (pc := 73) (dec_at lsk_80 (k := 28) rfl) rfl ?_
      refine u_gR (z := 1) (pc := 74) (dec_at lsk_80 (k := 29) rfl) f_7_12 sx_64 rfl rfl ?_
      refine u_ld (v := iV (u.1 67 l1)) (pc := 77) (dec_at lsk_80 (k := 30) rfl) rfl ?_
      have g10 := h.1
      have h := h.2
      refine u_cvI (As := [iV (u.1 67 l1)]) (rb := u.2 64 1) (st2 := []) (pc := 78) (dec_at lsk_80 (k := 31) rfl) m_7_78 (Or.inl rfl) rfl (Nat.le_of_ble_eq_true rfl) g10 me_71 rfl ?_ (fun _ _ h_ => h_)
      refine u_of me_71 (Nat.le_of_ble_eq_true rfl) ?_
      refine u_ld (v := .ref (u.2 64 1)) (pc := 0) (dec_at lsk_71 (k := 0) rfl) rfl ?_
      refine u_gL (z := 1) (pc := 1) (dec_at lsk_71 (k := 1) rfl) f_5_19 g10 rfl rfl ?_
      refine u_ld (v := iV (u.1 67 l1)) (pc := 4) (dec_at lsk_71 (k := 2) rfl) rfl ?_
      refine u_lushr (pc := 5) (dec_at lsk_71 (k := 3) rfl) ?_
      refine u_cl (x := 1) (pc := 6) (dec_at lsk_71 (k := 4) rfl) rfl (by decide) ?_
      refine u_land (pc := 7) (dec_at lsk_71 (k := 5) rfl) ?_
      refine u_cl (x := 0) (pc := 8) (dec_at lsk_71 (k := 6) rfl) rfl (by decide) ?_
      refine u_st (st' := [.int (lg_cmp (Int64.ofInt (land (lushr (u.1 (u.2 64 1) 1) (u.1 67 l1)) 1)) (Int64.ofInt 0))]) (pc := 9) (dec_at lsk_71 (k := 7) rfl) rfl ?_
      refine u_ifT (pc := 10) (tgt := 17) (dec_at lsk_71 (k := 8) rfl) rfl (cl_eq (rl_toInt _) (by decide)) (fun e11 => ?_) (fun e11 => ?_)
      · have h := ifT e11 h
        refine u_ld (v := iV 0) (pc := 17) (dec_at lsk_71 (k := 11) rfl) rfl ?_
        refine u_rZ (pc := 18) (dec_at lsk_71 (k := 12) rfl) rfl (by decide) ?_
        refine u_ifT (pc := 81) (tgt := 100) (dec_at lsk_80 (k := 32) rfl) rfl (c0_eq (by decide)) (fun _ => ?_) (fun e => absurd e (by decide))
        refine u_ld (v := iV 0) (pc := 100) (dec_at lsk_80 (k := 41) rfl) rfl ?_
        exact u_rZ (pc := 101) (dec_at lsk_80 (k := 42) rfl) rfl (by decide) h
      · have h := ifF e11 h
        refine u_ld (v := iV 1) (pc := 13) (dec_at lsk_71 (k := 9) rfl) rfl ?_
        refine u_goto (pc := 14) (tgt := 18) (dec_at lsk_71 (k := 10) rfl) rfl ?_
        refine u_rZ (pc := 18) (dec_at lsk_71 (k := 12) rfl) rfl (by decide) ?_
        refine u_ifT (pc := 81) (tgt := 100) (dec_at lsk_80 (k := 32) rfl) rfl (c0_eq (by decide)) (fun e => absurd e (by decide)) (fun _ => ?_)
        refine u_ld (v := .ref 64) (pc := 84) (dec_at lsk_80 (k := 33) rfl) rfl ?_
        refine u_gR (z := 2) (pc := 85) (dec_at lsk_80 (k := 34) rfl) f_7_18 sx_64 rfl rfl ?_
        refine u_ld (v := lV (u.1 68 l1)) (pc := 88) (dec_at lsk_80 (k := 35) rfl) rfl ?_
        refine u_l2w (pc := 89) (dec_at lsk_80 (k := 36) rfl) ?_
        have g12 := h.1
        have h := h.2
        refine u_cvI (As := [iV (wI (u.1 68 l1))]) (rb := u.2 64 2) (st2 := []) (pc := 90) (dec_at lsk_80 (k := 37) rfl) m_7_78 (Or.inl rfl) rfl (Nat.le_of_ble_eq_true rfl) g12 me_71 rfl ?_ (fun _ _ h_ => h_)
        refine u_of me_71 (Nat.le_of_ble_eq_true rfl) ?_
        refine u_ld (v := .ref (u.2 64 2)) (pc := 0) (dec_at lsk_71 (k := 0) rfl) rfl ?_
        refine u_gL (z := 1) (pc := 1) (dec_at lsk_71 (k := 1) rfl) f_5_19 g12 rfl rfl ?_
        refine u_ld (v := iV (wI (u.1 68 l1))) (pc := 4) (dec_at lsk_71 (k := 2) rfl) rfl ?_
        refine u_lushr (pc := 5) (dec_at lsk_71 (k := 3) rfl) ?_
        refine u_cl (x := 1) (pc := 6) (dec_at lsk_71 (k := 4) rfl) rfl (by decide) ?_
        refine u_land (pc := 7) (dec_at lsk_71 (k := 5) rfl) ?_
        refine u_cl (x := 0) (pc := 8) (dec_at lsk_71 (k := 6) rfl) rfl (by decide) ?_
        refine u_st (st' := [.int (lg_cmp (Int64.ofInt (land (lushr (u.1 (u.2 64 2) 1) (wI (u.1 68 l1))) 1)) (Int64.ofInt 0))]) (pc := 9) (dec_at lsk_71 (k := 7) rfl) rfl ?_
        refine u_ifT (pc := 10) (tgt := 17) (dec_at lsk_71 (k := 8) rfl) rfl (cl_eq (rl_toInt _) (by decide)) (fun e13 => ?_) (fun e13 => ?_)
        · have h := ifT e13 h
          refine u_ld (v := iV 0) (pc := 17) (dec_at lsk_71 (k := 11) rfl) rfl ?_
          refine u_rZ (pc := 18) (dec_at lsk_71 (k := 12) rfl) rfl (by decide) ?_
          refine u_ifT (pc := 93) (tgt := 100) (dec_at lsk_80 (k := 38) rfl) rfl (c0_eq (by decide)) (fun _ => ?_) (fun e => absurd e (by decide))
          refine u_ld (v := iV 0) (pc := 100) (dec_at lsk_80 (k := 41) rfl) rfl ?_
          exact u_rZ (pc := 101) (dec_at lsk_80 (k := 42) rfl) rfl (by decide) h
        · have h := ifF e13 h
          refine u_ld (v := iV 1) (pc := 13) (dec_at lsk_71 (k := 9) rfl) rfl ?_
          refine u_goto (pc := 14) (tgt := 18) (dec_at lsk_71 (k := 10) rfl) rfl ?_
          refine u_rZ (pc := 18) (dec_at lsk_71 (k := 12) rfl) rfl (by decide) ?_
          refine u_ifT (pc := 93) (tgt := 100) (dec_at lsk_80 (k := 38) rfl) rfl (c0_eq (by decide)) (fun e => absurd e (by decide)) (fun _ => ?_)
          refine u_ld (v := iV 1) (pc := 96) (dec_at lsk_80 (k := 39) rfl) rfl ?_
          refine u_goto (pc := 97) (tgt := 101) (dec_at lsk_80 (k := 40) rfl) rfl ?_
          exact u_rZ (pc := 101) (dec_at lsk_80 (k := 42) rfl) rfl (by decide) h
    · have h := ifF e9 h
      by_cases e14 : u.1 64 0 = 2
      · have h := ifT e14 h
        refine u_ts (pc := 18) (tgt := 102) (o := 84) (dec_at lsk_80 (k := 12) rfl) g3 (by omega) (by rw [e14]; rfl) rfl ?_
        refine u_ld (v := lV (u.1 68 l1)) (pc := 102) (dec_at lsk_80 (k := 43) rfl) rfl ?_
        refine u_ld (v := .ref 64) (pc := 103) (dec_at lsk_80 (k := 44) rfl) rfl ?_
        refine u_gR (z := 2) (pc := 104) (dec_at lsk_80 (k := 45) rfl) f_7_18 sx_64 rfl rfl ?_
        have g15 := h.1
        have h := h.2
        refine u_gL (z := 1) (pc := 107) (dec_at lsk_80 (k := 46) rfl) f_7_98 g15 rfl rfl ?_
        refine u_land (pc := 110) (dec_at lsk_80 (k := 47) rfl) ?_
        refine u_cl (x := 0) (pc := 111) (dec_at lsk_80 (k := 48) rfl) rfl (by decide) ?_
        refine u_st (st' := [.int (lg_cmp (Int64.ofInt (land (u.1 68 l1) (u.1 (u.2 64 2) 1))) (Int64.ofInt 0))]) (pc := 112) (dec_at lsk_80 (k := 49) rfl) rfl ?_
        refine u_ifT (pc := 113) (tgt := 120) (dec_at lsk_80 (k := 50) rfl) rfl (cl_eq (rl_toInt _) (by decide)) (fun e16 => ?_) (fun e16 => ?_)
        · have h := ifT e16 h
          refine u_ld (v := iV 0) (pc := 120) (dec_at lsk_80 (k := 53) rfl) rfl ?_
          exact u_rZ (pc := 121) (dec_at lsk_80 (k := 54) rfl) rfl (by decide) h
        · have h := ifF e16 h
          refine u_ld (v := iV 1) (pc := 116) (dec_at lsk_80 (k := 51) rfl) rfl ?_
          refine u_goto (pc := 117) (tgt := 121) (dec_at lsk_80 (k := 52) rfl) rfl ?_
          exact u_rZ (pc := 121) (dec_at lsk_80 (k := 54) rfl) rfl (by decide) h
      · have h := ifF e14 h
        refine u_td (pc := 18) (tgt := 122) (dec_at lsk_80 (k := 12) rfl) g3 (by omega) rfl ?_
        refine u_ld (v := iV (u.1 67 l1)) (pc := 122) (dec_at lsk_80 (k := 55) rfl) rfl ?_
        refine u_ld (v := iV 1) (pc := 123) (dec_at lsk_80 (k := 56) rfl) rfl ?_
        have g17 := h.1
        have h := h.2
        refine u_icT (pc := 124) (tgt := 141) (dec_at lsk_80 (k := 57) rfl) rfl (ci_eq g17 (by decide)) (fun e18 => ?_) (fun e18 => ?_)
        · have h := ifT e18 h
          refine u_ld (v := iV 1) (pc := 141) (dec_at lsk_80 (k := 66) rfl) rfl ?_
          refine u_goto (pc := 142) (tgt := 146) (dec_at lsk_80 (k := 67) rfl) rfl ?_
          exact u_rZ (pc := 146) (dec_at lsk_80 (k := 69) rfl) rfl (by decide) h
        · have h := ifF e18 h
          refine u_ld (v := lV (u.1 68 l1)) (pc := 127) (dec_at lsk_80 (k := 58) rfl) rfl ?_
          refine u_ld (v := .ref 64) (pc := 128) (dec_at lsk_80 (k := 59) rfl) rfl ?_
          refine u_gR (z := 1) (pc := 129) (dec_at lsk_80 (k := 60) rfl) f_7_12 sx_64 rfl rfl ?_
          have g19 := h.1
          have h := h.2
          refine u_gL (z := 1) (pc := 132) (dec_at lsk_80 (k := 61) rfl) f_7_98 g19 rfl rfl ?_
          refine u_land (pc := 135) (dec_at lsk_80 (k := 62) rfl) ?_
          refine u_cl (x := 0) (pc := 136) (dec_at lsk_80 (k := 63) rfl) rfl (by decide) ?_
          refine u_st (st' := [.int (lg_cmp (Int64.ofInt (land (u.1 68 l1) (u.1 (u.2 64 1) 1))) (Int64.ofInt 0))]) (pc := 137) (dec_at lsk_80 (k := 64) rfl) rfl ?_
          refine u_ifT (pc := 138) (tgt := 145) (dec_at lsk_80 (k := 65) rfl) rfl (cl_eq (rl_toInt _) (by decide)) (fun e20 => ?_) (fun e20 => ?_)
          · have h := ifT e20 h
            refine u_ld (v := iV 0) (pc := 145) (dec_at lsk_80 (k := 68) rfl) rfl ?_
            exact u_rZ (pc := 146) (dec_at lsk_80 (k := 69) rfl) rfl (by decide) h
          · have h := ifF e20 h
            refine u_ld (v := iV 1) (pc := 141) (dec_at lsk_80 (k := 66) rfl) rfl ?_
            refine u_goto (pc := 142) (tgt := 146) (dec_at lsk_80 (k := 67) rfl) rfl ?_
            exact u_rZ (pc := 146) (dec_at lsk_80 (k := 69) rfl) rfl (by decide) h
/-- method 82 -/
def K_82 (d pc : Nat) (lv : ev_L) (st : List Value) (u : uS) (Q : uS → Prop) : Prop := okU d 7 5 false none prog_6_method_9_code (qV Q) pc lv st u
theorem e_82 {d : Nat} {Q : uS → Prop} {u : uS} {l1 : Int} (h : (0 ≤ (u.1 64 14) * 41) ∧ (((u.1 64 14) * 41 ≤ 1681) ∧ (∀ u3 : uS, u3 = fil u 75 0 ((u.1 64 14) * 41) 0 → (K_82 (d + 2) 20 [.ref 64, iV l1, iV 0, iV 0, .retAddr 0] [] u3 Q)))) : cV (d + 3) 82 [.ref 64, iV l1] u Q := by
  refine u_of me_82 (Nat.le_of_ble_eq_true rfl) ?_
  refine u_ld (v := .ref 64) (pc := 0) (dec_at lsk_82 (k := 0) rfl) rfl ?_
  refine u_gS (o := 11) (p := 75) (pc := 1) (dec_at lsk_82 (k := 1) rfl) f_7_48 sx_64 rfl rfl ?_
  refine u_ld (v := iV 0) (pc := 4) (dec_at lsk_82 (k := 2) rfl) rfl ?_
  refine u_ld (v := .ref 64) (pc := 5) (dec_at lsk_82 (k := 3) rfl) rfl ?_
  refine u_gI (z := 14) (pc := 6) (dec_at lsk_82 (k := 4) rfl) f_7_109 sx_64 rfl rfl ?_
  refine u_c (x := 41) (pc := 9) (dec_at lsk_82 (k := 5) rfl) rfl (by decide) ?_
  refine u_imul (pc := 11) (dec_at lsk_82 (k := 6) rfl) ?_
  refine u_ld (v := iV 0) (pc := 12) (dec_at lsk_82 (k := 7) rfl) rfl ?_
  have g1 := h.1
  have h := h.2
  have g2 := h.1
  have h := h.2
  refine u_csV (As := [.ref 75, iV 0, iV ((u.1 64 14) * 41), iV 0]) (st2 := []) (pc := 13) (dec_at lsk_82 (k := 8) rfl) m_7_124 (Or.inl rfl) rfl (Nat.le_of_ble_eq_true rfl) (q_83 sx_75 (by decide) g1 g2) (fun u3 e4 => ?_)
  have h := h u3 e4
  refine u_ld (v := iV 0) (pc := 16) (dec_at lsk_82 (k := 9) rfl) rfl ?_
  refine u_sto (lv' := [.ref 64, iV l1, iV 0, .retAddr 0, .retAddr 0]) (pc := 17) (dec_at lsk_82 (k := 10) rfl) rfl ?_
  refine u_ld (v := iV 0) (pc := 18) (dec_at lsk_82 (k := 11) rfl) rfl ?_
  refine u_sto (lv' := [.ref 64, iV l1, iV 0, iV 0, .retAddr 0]) (pc := 19) (dec_at lsk_82 (k := 12) rfl) rfl ?_
  exact h
theorem k_82_20 {d : Nat} {Q : uS → Prop} {u : uS} {l1 l2 l3 : Int} (h : (rI l3) ∧ ((rI (u.1 64 3)) ∧ (if l3 < u.1 64 3 then ((0 ≤ l3) ∧ ((l3 < 2000) ∧ ((0 ≤ (l3 * 10) + l1) ∧ (((l3 * 10) + l1 < 20000) ∧ ((0 ≤ u.1 69 ((l3 * 10) + l1)) ∧ ((u.1 69 ((l3 * 10) + l1) < 2000) ∧ ((0 ≤ ((u.1 73 l3) * 41) + (u.1 73 (u.1 69 ((l3 * 10) + l1)))) ∧ ((((u.1 73 l3) * 41) + (u.1 73 (u.1 69 ((l3 * 10) + l1))) < 1681) ∧ ((rI (u.1 75 (((u.1 73 l3) * 41) + (u.1 73 (u.1 69 ((l3 * 10) + l1)))))) ∧ (if u.1 75 (((u.1 73 l3) * 41) + (u.1 73 (u.1 69 ((l3 * 10) + l1)))) = 0 then ((rI l2) ∧ (if l2 < 40 then (∀ u16 : uS, u16 = wr u 75 (((u.1 73 l3) * 41) + (u.1 73 (u.1 69 ((l3 * 10) + l1)))) (l2 + 1) → (∀ u18 : uS, u18 = wr u16 74 l3 ((u16.1 75 (((u.1 73 l3) * 41) + (u.1 73 (u.1 69 ((l3 * 10) + l1))))) - 1) → (K_82 (d + 2) 20 [.ref 64, iV l1, iV (l2 + 1), iV (l3 + 1), .retAddr 0] [] u18 Q))) else (∀ u20 : uS, u20 = wr u 64 4 1 → (Q u20)))) else (∀ u22 : uS, u22 = wr u 74 l3 ((u.1 75 (((u.1 73 l3) * 41) + (u.1 73 (u.1 69 ((l3 * 10) + l1))))) - 1) → (K_82 (d + 2) 20 [.ref 64, iV l1, iV l2, iV (l3 + 1), .retAddr 0] [] u22 Q)))))))))))) else (∀ u24 : uS, u24 = wr u 64 14 l2 → ((0 ≤ u24.1 64 3) ∧ ((0 + (u24.1 64 3) ≤ 2000) ∧ (∀ u28 : uS, u28 = cpy u24 74 0 73 0 (u24.1 64 3) → (Q u28)))))))) : K_82 (d + 2) 20 [.ref 64, iV l1, iV l2, iV l3, .retAddr 0] [] u Q := by
  unfold K_82
  refine u_ld (v := iV l3) (pc := 20) (dec_at lsk_82 (k := 13) rfl) rfl ?_
  refine u_ld (v := .ref 64) (pc := 21) (dec_at lsk_82 (k := 14) rfl) rfl ?_
  refine u_gI (z := 3) (pc := 22) (dec_at lsk_82 (k := 15) rfl) f_7_75 sx_64 rfl rfl ?_
  have g1 := h.1
  have h := h.2
  have g2 := h.1
  have h := h.2
  refine u_icF (pc := 25) (tgt := 110) (dec_at lsk_82 (k := 16) rfl) rfl (ci_ge g1 g2) (fun e3 => ?_) (fun e3 => ?_)
  · have h := ifT e3 h
    refine u_ld (v := .ref 64) (pc := 28) (dec_at lsk_82 (k := 17) rfl) rfl ?_
    refine u_gS (o := 9) (p := 73) (pc := 29) (dec_at lsk_82 (k := 18) rfl) f_7_42 sx_64 rfl rfl ?_
    refine u_ld (v := iV l3) (pc := 32) (dec_at lsk_82 (k := 19) rfl) rfl ?_
    have g4 := h.1
    have h := h.2
    have g5 := h.1
    have h := h.2
    refine u_iald (pc := 33) (dec_at lsk_82 (k := 20) rfl) sx_73 g4 g5 ?_
    refine u_c (x := 41) (pc := 34) (dec_at lsk_82 (k := 21) rfl) rfl (by decide) ?_
    refine u_imul (pc := 36) (dec_at lsk_82 (k := 22) rfl) ?_
    refine u_ld (v := .ref 64) (pc := 37) (dec_at lsk_82 (k := 23) rfl) rfl ?_
    refine u_gS (o := 9) (p := 73) (pc := 38) (dec_at lsk_82 (k := 24) rfl) f_7_42 sx_64 rfl rfl ?_
    refine u_ld (v := .ref 64) (pc := 41) (dec_at lsk_82 (k := 25) rfl) rfl ?_
    refine u_gS (o := 5) (p := 69) (pc := 42) (dec_at lsk_82 (k := 26) rfl) f_7_29 sx_64 rfl rfl ?_
    refine u_ld (v := iV l3) (pc := 45) (dec_at lsk_82 (k := 27) rfl) rfl ?_
    refine u_c (x := 10) (pc := 46) (dec_at lsk_82 (k := 28) rfl) rfl (by decide) ?_
    refine u_imul (pc := 48) (dec_at lsk_82 (k := 29) rfl) ?_
    refine u_ld (v := iV l1) (pc := 49) (dec_at lsk_82 (k := 30) rfl) rfl ?_
    refine u_iadd (pc := 50) (dec_at lsk_82 (k := 31) rfl) ?_
    have g6 := h.1
    have h := h.2
    have g7 := h.1
    have h := h.2
    refine u_iald (pc := 51) (dec_at lsk_82 (k := 32) rfl) sx_69 g6 g7 ?_
    have g8 := h.1
    have h := h.2
    have g9 := h.1
    have h := h.2
    refine u_iald (pc := 52) (dec_at lsk_82 (k := 33) rfl) sx_73 g8 g9 ?_
    refine u_iadd (pc := 53) (dec_at lsk_82 (k := 34) rfl) ?_
    refine u_sto (lv' := [.ref 64, iV l1, iV l2, iV l3, iV (((u.1 73 l3) * 41) + (u.1 73 (u.1 69 ((l3 * 10) + l1))))]) (pc := 54) (dec_at lsk_82 (k := 35) rfl) rfl ?_
    refine u_ld (v := .ref 64) (pc := 56) (dec_at lsk_82 (k := 36) rfl) rfl ?_
    refine u_gS (o := 11) (p := 75) (pc := 57) (dec_at lsk_82 (k := 37) rfl) f_7_48 sx_64 rfl rfl ?_
    refine u_ld (v := iV (((u.1 73 l3) * 41) + (u.1 73 (u.1 69 ((l3 * 10) + l1))))) (pc := 60) (dec_at lsk_82 (k := 38) rfl) rfl ?_
    have g10 := h.1
    have h := h.2
    have g11 := h.1
    have h := h.2
    refine u_iald (pc := 62) (dec_at lsk_82 (k := 39) rfl) sx_75 g10 g11 ?_
    have g12 := h.1
    have h := h.2
    refine u_ifF (pc := 63) (tgt := 89) (dec_at lsk_82 (k := 40) rfl) rfl (c0_ne g12) (fun e13 => ?_) (fun e13 => ?_)
    · have h := ifT e13 h
      refine u_ld (v := iV l2) (pc := 66) (dec_at lsk_82 (k := 41) rfl) rfl ?_
      refine u_c (x := 40) (pc := 67) (dec_at lsk_82 (k := 42) rfl) rfl (by decide) ?_
      have g14 := h.1
      have h := h.2
      refine u_icT (pc := 69) (tgt := 78) (dec_at lsk_82 (k := 43) rfl) rfl (ci_lt g14 (by decide)) (fun e15 => ?_) (fun e15 => ?_)
      · have h := ifT e15 h
        refine u_inc (lv' := [.ref 64, iV l1, iV (l2 + 1), iV l3, iV (((u.1 73 l3) * 41) + (u.1 73 (u.1 69 ((l3 * 10) + l1))))]) (pc := 78) (dec_at lsk_82 (k := 48) rfl) rfl (by decide) rfl ?_
        refine u_ld (v := .ref 64) (pc := 81) (dec_at lsk_82 (k := 49) rfl) rfl ?_
        refine u_gS (o := 11) (p := 75) (pc := 82) (dec_at lsk_82 (k := 50) rfl) f_7_48 sx_64 rfl rfl ?_
        refine u_ld (v := iV (((u.1 73 l3) * 41) + (u.1 73 (u.1 69 ((l3 * 10) + l1))))) (pc := 85) (dec_at lsk_82 (k := 51) rfl) rfl ?_
        refine u_ld (v := iV (l2 + 1)) (pc := 87) (dec_at lsk_82 (k := 52) rfl) rfl ?_
        refine u_iast (pc := 88) (dec_at lsk_82 (k := 53) rfl) sx_75 g10 g11 (fun u16 e17 => ?_)
        have h := h u16 e17
        refine u_ld (v := .ref 64) (pc := 89) (dec_at lsk_82 (k := 54) rfl) rfl ?_
        refine u_gS (o := 10) (p := 74) (pc := 90) (dec_at lsk_82 (k := 55) rfl) f_7_45 sx_64 rfl rfl ?_
        refine u_ld (v := iV l3) (pc := 93) (dec_at lsk_82 (k := 56) rfl) rfl ?_
        refine u_ld (v := .ref 64) (pc := 94) (dec_at lsk_82 (k := 57) rfl) rfl ?_
        refine u_gS (o := 11) (p := 75) (pc := 95) (dec_at lsk_82 (k := 58) rfl) f_7_48 sx_64 rfl rfl ?_
        refine u_ld (v := iV (((u.1 73 l3) * 41) + (u.1 73 (u.1 69 ((l3 * 10) + l1))))) (pc := 98) (dec_at lsk_82 (k := 59) rfl) rfl ?_
        refine u_iald (pc := 100) (dec_at lsk_82 (k := 60) rfl) sx_75 g10 g11 ?_
        refine u_ld (v := iV 1) (pc := 101) (dec_at lsk_82 (k := 61) rfl) rfl ?_
        refine u_isub (pc := 102) (dec_at lsk_82 (k := 62) rfl) ?_
        refine u_iast (pc := 103) (dec_at lsk_82 (k := 63) rfl) sx_74 g4 g5 (fun u18 e19 => ?_)
        have h := h u18 e19
        refine u_inc (lv' := [.ref 64, iV l1, iV (l2 + 1), iV (l3 + 1), iV (((u.1 73 l3) * 41) + (u.1 73 (u.1 69 ((l3 * 10) + l1))))]) (pc := 104) (dec_at lsk_82 (k := 64) rfl) rfl (by decide) rfl ?_
        refine u_goto (pc := 107) (tgt := 20) (dec_at lsk_82 (k := 65) rfl) rfl ?_
        exact u_weak (sbK (sbK (sbK (sbK (sbD sb0))))) h
      · have h := ifF e15 h
        refine u_ld (v := .ref 64) (pc := 72) (dec_at lsk_82 (k := 44) rfl) rfl ?_
        refine u_ld (v := iV 1) (pc := 73) (dec_at lsk_82 (k := 45) rfl) rfl ?_
        refine u_pZ (z := 4) (pc := 74) (dec_at lsk_82 (k := 46) rfl) f_7_61 sx_64 rfl rfl rfl rfl (by decide) (fun u20 e21 => ?_)
        have h := h u20 e21
        exact u_rV (pc := 77) (dec_at lsk_82 (k := 47) rfl) rfl h
    · have h := ifF e13 h
      refine u_ld (v := .ref 64) (pc := 89) (dec_at lsk_82 (k := 54) rfl) rfl ?_
      refine u_gS (o := 10) (p := 74) (pc := 90) (dec_at lsk_82 (k := 55) rfl) f_7_45 sx_64 rfl rfl ?_
      refine u_ld (v := iV l3) (pc := 93) (dec_at lsk_82 (k := 56) rfl) rfl ?_
      refine u_ld (v := .ref 64) (pc := 94) (dec_at lsk_82 (k := 57) rfl) rfl ?_
      refine u_gS (o := 11) (p := 75) (pc := 95) (dec_at lsk_82 (k := 58) rfl) f_7_48 sx_64 rfl rfl ?_
      refine u_ld (v := iV (((u.1 73 l3) * 41) + (u.1 73 (u.1 69 ((l3 * 10) + l1))))) (pc := 98) (dec_at lsk_82 (k := 59) rfl) rfl ?_
      refine u_iald (pc := 100) (dec_at lsk_82 (k := 60) rfl) sx_75 g10 g11 ?_
      refine u_ld (v := iV 1) (pc := 101) (dec_at lsk_82 (k := 61) rfl) rfl ?_
      refine u_isub (pc := 102) (dec_at lsk_82 (k := 62) rfl) ?_
      refine u_iast (pc := 103) (dec_at lsk_82 (k := 63) rfl) sx_74 g4 g5 (fun u22 e23 => ?_)
      have h := h u22 e23
      refine u_inc (lv' := [.ref 64, iV l1, iV l2, iV (l3 + 1), iV (((u.1 73 l3) * 41) + (u.1 73 (u.1 69 ((l3 * 10) + l1))))]) (pc := 104) (dec_at lsk_82 (k := 64) rfl) rfl (by decide) rfl ?_
      refine u_goto (pc := 107) (tgt := 20) (dec_at lsk_82 (k := 65) rfl) rfl ?_
      exact u_weak (sbK (sbK (sbK (sbK (sbD sb0))))) h
  · have h := ifF e3 h
    refine u_ld (v := .ref 64) (pc := 110) (dec_at lsk_82 (k := 66) rfl) rfl ?_
    refine u_ld (v := iV l2) (pc := 111) (dec_at lsk_82 (k := 67) rfl) rfl ?_
    refine u_pI (z := 14) (pc := 112) (dec_at lsk_82 (k := 68) rfl) f_7_109 sx_64 rfl rfl rfl rfl (fun u24 e25 => ?_)
    have h := h u24 e25
    refine u_ld (v := .ref 64) (pc := 115) (dec_at lsk_82 (k := 69) rfl) rfl ?_
    refine u_gS (o := 10) (p := 74) (pc := 116) (dec_at lsk_82 (k := 70) rfl) f_7_45 sx_64 rfl rfl ?_
    refine u_ld (v := iV 0) (pc := 119) (dec_at lsk_82 (k := 71) rfl) rfl ?_
    refine u_ld (v := .ref 64) (pc := 120) (dec_at lsk_82 (k := 72) rfl) rfl ?_
    refine u_gS (o := 9) (p := 73) (pc := 121) (dec_at lsk_82 (k := 73) rfl) f_7_42 sx_64 rfl rfl ?_
    refine u_ld (v := iV 0) (pc := 124) (dec_at lsk_82 (k := 74) rfl) rfl ?_
    refine u_ld (v := .ref 64) (pc := 125) (dec_at lsk_82 (k := 75) rfl) rfl ?_
    refine u_gI (z := 3) (pc := 126) (dec_at lsk_82 (k := 76) rfl) f_7_75 sx_64 rfl rfl ?_
    have g26 := h.1
    have h := h.2
    have g27 := h.1
    have h := h.2
    refine u_cpyI (pc := 129) (dec_at lsk_82 (k := 77) rfl) m_7_130 sx_74 sx_73 (by decide) (by decide) g26 g27 g27 (Nat.le_of_ble_eq_true rfl) (fun u28 e29 => ?_)
    have h := h u28 e29
    exact u_rV (pc := 132) (dec_at lsk_82 (k := 78) rfl) rfl h
/-- method 85 -/
def K_85 (d pc : Nat) (lv : ev_L) (st : List Value) (u : uS) (Q : uS → Prop) : Prop := okU d 7 6 false none prog_6_method_10_code (qV Q) pc lv st u
theorem e_85 {d : Nat} {Q : uS → Prop} {u : uS} {l1 : Nat} (hOl1 : isO l1 5) (h : (0 ≤ u.1 64 14) ∧ ((u.1 64 14 ≤ 40) ∧ (∀ u3 : uS, u3 = fil u 76 0 (u.1 64 14) (-1) → ((0 ≤ u3.1 73 0) ∧ ((u3.1 73 0 < 40) ∧ (∀ u7 : uS, u7 = wr u3 76 (u3.1 73 0) 0 → (∀ u9 : uS, u9 = wr u7 77 0 0 → (∀ u11 : uS, u11 = wr u9 l1 1 0 → (K_85 (d + 2) 41 [.ref 64, .ref l1, iV 1, iV 0, .retAddr 0, .retAddr 0] [] u11 Q))))))))) : cV (d + 3) 85 [.ref 64, .ref l1] u Q := by
  refine u_of me_85 (Nat.le_of_ble_eq_true rfl) ?_
  refine u_ld (v := .ref 64) (pc := 0) (dec_at lsk_85 (k := 0) rfl) rfl ?_
  refine u_gS (o := 12) (p := 76) (pc := 1) (dec_at lsk_85 (k := 1) rfl) f_7_51 sx_64 rfl rfl ?_
  refine u_ld (v := iV 0) (pc := 4) (dec_at lsk_85 (k := 2) rfl) rfl ?_
  refine u_ld (v := .ref 64) (pc := 5) (dec_at lsk_85 (k := 3) rfl) rfl ?_
  refine u_gI (z := 14) (pc := 6) (dec_at lsk_85 (k := 4) rfl) f_7_109 sx_64 rfl rfl ?_
  refine u_ld (v := iV (-1)) (pc := 9) (dec_at lsk_85 (k := 5) rfl) rfl ?_
  have g1 := h.1
  have h := h.2
  have g2 := h.1
  have h := h.2
  refine u_csV (As := [.ref 76, iV 0, iV (u.1 64 14), iV (-1)]) (st2 := []) (pc := 10) (dec_at lsk_85 (k := 6) rfl) m_7_124 (Or.inl rfl) rfl (Nat.le_of_ble_eq_true rfl) (q_83 sx_76 (by decide) g1 g2) (fun u3 e4 => ?_)
  have h := h u3 e4
  refine u_ld (v := .ref 64) (pc := 13) (dec_at lsk_85 (k := 7) rfl) rfl ?_
  refine u_gS (o := 12) (p := 76) (pc := 14) (dec_at lsk_85 (k := 8) rfl) f_7_51 sx_64 rfl rfl ?_
  refine u_ld (v := .ref 64) (pc := 17) (dec_at lsk_85 (k := 9) rfl) rfl ?_
  refine u_gS (o := 9) (p := 73) (pc := 18) (dec_at lsk_85 (k := 10) rfl) f_7_42 sx_64 rfl rfl ?_
  refine u_ld (v := iV 0) (pc := 21) (dec_at lsk_85 (k := 11) rfl) rfl ?_
  refine u_iald (pc := 22) (dec_at lsk_85 (k := 12) rfl) sx_73 (by decide) (by decide) ?_
  refine u_ld (v := iV 0) (pc := 23) (dec_at lsk_85 (k := 13) rfl) rfl ?_
  have g5 := h.1
  have h := h.2
  have g6 := h.1
  have h := h.2
  refine u_iast (pc := 24) (dec_at lsk_85 (k := 14) rfl) sx_76 g5 g6 (fun u7 e8 => ?_)
  have h := h u7 e8
  refine u_ld (v := .ref 64) (pc := 25) (dec_at lsk_85 (k := 15) rfl) rfl ?_
  refine u_gS (o := 13) (p := 77) (pc := 26) (dec_at lsk_85 (k := 16) rfl) f_7_54 sx_64 rfl rfl ?_
  refine u_ld (v := iV 0) (pc := 29) (dec_at lsk_85 (k := 17) rfl) rfl ?_
  refine u_ld (v := iV 0) (pc := 30) (dec_at lsk_85 (k := 18) rfl) rfl ?_
  refine u_iast (pc := 31) (dec_at lsk_85 (k := 19) rfl) sx_77 (by decide) (by decide) (fun u9 e10 => ?_)
  have h := h u9 e10
  refine u_ld (v := iV 1) (pc := 32) (dec_at lsk_85 (k := 20) rfl) rfl ?_
  refine u_sto (lv' := [.ref 64, .ref l1, iV 1, .retAddr 0, .retAddr 0, .retAddr 0]) (pc := 33) (dec_at lsk_85 (k := 21) rfl) rfl ?_
  refine u_ld (v := .ref l1) (pc := 34) (dec_at lsk_85 (k := 22) rfl) rfl ?_
  refine u_cl (x := 0) (pc := 35) (dec_at lsk_85 (k := 23) rfl) rfl (by decide) ?_
  refine u_pL (z := 1) (pc := 36) (dec_at lsk_85 (k := 24) rfl) f_7_98 hOl1 rfl rfl rfl rfl (fun u11 e12 => ?_)
  have h := h u11 e12
  refine u_ld (v := iV 0) (pc := 39) (dec_at lsk_85 (k := 25) rfl) rfl ?_
  refine u_sto (lv' := [.ref 64, .ref l1, iV 1, iV 0, .retAddr 0, .retAddr 0]) (pc := 40) (dec_at lsk_85 (k := 26) rfl) rfl ?_
  exact h
theorem k_85_41 {d : Nat} {Q : uS → Prop} {u : uS} {l1 : Nat} {l2 l3 : Int} (hOl1 : isO l1 5) (h : (rI l3) ∧ ((rI l2) ∧ (if l3 < l2 then (if l3 < 40 then ((0 ≤ l3) ∧ ((0 ≤ u.1 77 l3) ∧ ((u.1 77 l3 < 2000) ∧ ((rI (u.1 72 (u.1 77 l3))) ∧ (if u.1 72 (u.1 77 l3) = 0 then (K_85 (d + 2) 81 [.ref 64, .ref l1, iV l2, iV l3, iV 0, .retAddr 0] [] u Q) else (∀ u10 : uS, u10 = wr u l1 1 (lor (u.1 l1 1) (lshl 1 l3)) → (K_85 (d + 2) 81 [.ref 64, .ref l1, iV l2, iV l3, iV 0, .retAddr 0] [] u10 Q))))))) else (∀ u12 : uS, u12 = wr u l1 0 l2 → (Q u12))) else (∀ u14 : uS, u14 = wr u l1 0 l2 → (Q u14))))) : K_85 (d + 2) 41 [.ref 64, .ref l1, iV l2, iV l3, .retAddr 0, .retAddr 0] [] u Q := by
  unfold K_85
  refine u_ld (v := iV l3) (pc := 41) (dec_at lsk_85 (k := 27) rfl) rfl ?_
  refine u_ld (v := iV l2) (pc := 42) (dec_at lsk_85 (k := 28) rfl) rfl ?_
  have g1 := h.1
  have h := h.2
  have g2 := h.1
  have h := h.2
  refine u_icF (pc := 43) (tgt := 177) (dec_at lsk_85 (k := 29) rfl) rfl (ci_ge g1 g2) (fun e3 => ?_) (fun e3 => ?_)
  · have h := ifT e3 h
    refine u_ld (v := iV l3) (pc := 46) (dec_at lsk_85 (k := 30) rfl) rfl ?_
    refine u_c (x := 40) (pc := 47) (dec_at lsk_85 (k := 31) rfl) rfl (by decide) ?_
    refine u_icF (pc := 49) (tgt := 177) (dec_at lsk_85 (k := 32) rfl) rfl (ci_ge g1 (by decide)) (fun e4 => ?_) (fun e4 => ?_)
    · have h := ifT e4 h
      refine u_ld (v := .ref 64) (pc := 52) (dec_at lsk_85 (k := 33) rfl) rfl ?_
      refine u_gS (o := 8) (p := 72) (pc := 53) (dec_at lsk_85 (k := 34) rfl) f_7_38 sx_64 rfl rfl ?_
      refine u_ld (v := .ref 64) (pc := 56) (dec_at lsk_85 (k := 35) rfl) rfl ?_
      refine u_gS (o := 13) (p := 77) (pc := 57) (dec_at lsk_85 (k := 36) rfl) f_7_54 sx_64 rfl rfl ?_
      refine u_ld (v := iV l3) (pc := 60) (dec_at lsk_85 (k := 37) rfl) rfl ?_
      have g5 := h.1
      have h := h.2
      refine u_iald (pc := 61) (dec_at lsk_85 (k := 38) rfl) sx_77 g5 e4 ?_
      have g6 := h.1
      have h := h.2
      have g7 := h.1
      have h := h.2
      refine u_zald (pc := 62) (dec_at lsk_85 (k := 39) rfl) sx_72 g6 g7 ?_
      have g8 := h.1
      have h := h.2
      refine u_ifT (pc := 63) (tgt := 78) (dec_at lsk_85 (k := 40) rfl) rfl (c0_eq g8) (fun e9 => ?_) (fun e9 => ?_)
      · have h := ifT e9 h
        refine u_ld (v := iV 0) (pc := 78) (dec_at lsk_85 (k := 49) rfl) rfl ?_
        refine u_sto (lv' := [.ref 64, .ref l1, iV l2, iV l3, iV 0, .retAddr 0]) (pc := 79) (dec_at lsk_85 (k := 50) rfl) rfl ?_
        exact h
      · have h := ifF e9 h
        refine u_ld (v := .ref l1) (pc := 66) (dec_at lsk_85 (k := 41) rfl) rfl ?_
        refine u_ld (v := .ref l1) (pc := 67) (dec_at lsk_85 (k := 42) rfl) rfl ?_
        refine u_gL (z := 1) (pc := 68) (dec_at lsk_85 (k := 43) rfl) f_7_98 hOl1 rfl rfl ?_
        refine u_cl (x := 1) (pc := 71) (dec_at lsk_85 (k := 44) rfl) rfl (by decide) ?_
        refine u_ld (v := iV l3) (pc := 72) (dec_at lsk_85 (k := 45) rfl) rfl ?_
        refine u_lshl (pc := 73) (dec_at lsk_85 (k := 46) rfl) ?_
        refine u_lor (pc := 74) (dec_at lsk_85 (k := 47) rfl) ?_
        refine u_pL (z := 1) (pc := 75) (dec_at lsk_85 (k := 48) rfl) f_7_98 hOl1 rfl rfl rfl rfl (fun u10 e11 => ?_)
        have h := h u10 e11
        refine u_ld (v := iV 0) (pc := 78) (dec_at lsk_85 (k := 49) rfl) rfl ?_
        refine u_sto (lv' := [.ref 64, .ref l1, iV l2, iV l3, iV 0, .retAddr 0]) (pc := 79) (dec_at lsk_85 (k := 50) rfl) rfl ?_
        exact h
    · have h := ifF e4 h
      refine u_ld (v := .ref l1) (pc := 177) (dec_at lsk_85 (k := 103) rfl) rfl ?_
      refine u_ld (v := iV l2) (pc := 178) (dec_at lsk_85 (k := 104) rfl) rfl ?_
      refine u_pI (z := 0) (pc := 179) (dec_at lsk_85 (k := 105) rfl) f_7_140 hOl1 rfl rfl rfl rfl (fun u12 e13 => ?_)
      have h := h u12 e13
      exact u_rV (pc := 182) (dec_at lsk_85 (k := 106) rfl) rfl h
  · have h := ifF e3 h
    refine u_ld (v := .ref l1) (pc := 177) (dec_at lsk_85 (k := 103) rfl) rfl ?_
    refine u_ld (v := iV l2) (pc := 178) (dec_at lsk_85 (k := 104) rfl) rfl ?_
    refine u_pI (z := 0) (pc := 179) (dec_at lsk_85 (k := 105) rfl) f_7_140 hOl1 rfl rfl rfl rfl (fun u14 e15 => ?_)
    have h := h u14 e15
    exact u_rV (pc := 182) (dec_at lsk_85 (k := 106) rfl) rfl h
theorem k_85_81 {d : Nat} {Q : uS → Prop} {u : uS} {l1 : Nat} {l2 l3 l4 : Int} (hOl1 : isO l1 5) (h : (rI l4) ∧ (if l4 < 10 then ((0 ≤ l3) ∧ ((l3 < 40) ∧ ((0 ≤ ((u.1 77 l3) * 10) + l4) ∧ ((((u.1 77 l3) * 10) + l4 < 20000) ∧ ((0 ≤ u.1 69 (((u.1 77 l3) * 10) + l4)) ∧ ((u.1 69 (((u.1 77 l3) * 10) + l4) < 2000) ∧ ((0 ≤ u.1 73 (u.1 69 (((u.1 77 l3) * 10) + l4))) ∧ ((u.1 73 (u.1 69 (((u.1 77 l3) * 10) + l4)) < 40) ∧ ((rI (u.1 76 (u.1 73 (u.1 69 (((u.1 77 l3) * 10) + l4))))) ∧ (if u.1 76 (u.1 73 (u.1 69 (((u.1 77 l3) * 10) + l4))) < 0 then (∀ u13 : uS, u13 = wr u 76 (u.1 73 (u.1 69 (((u.1 77 l3) * 10) + l4))) l2 → ((0 ≤ l2) ∧ ((l2 < 40) ∧ (∀ u17 : uS, u17 = wr u13 77 l2 (u.1 69 (((u.1 77 l3) * 10) + l4)) → ((0 ≤ u17.1 73 (u.1 69 (((u.1 77 l3) * 10) + l4))) ∧ ((u17.1 73 (u.1 69 (((u.1 77 l3) * 10) + l4)) < 40) ∧ ((0 ≤ (l3 * 10) + l4) ∧ (((l3 * 10) + l4 < 400) ∧ (∀ u23 : uS, u23 = wr u17 (l1 + 1) ((l3 * 10) + l4) (u17.1 76 (u17.1 73 (u.1 69 (((u.1 77 l3) * 10) + l4)))) → (K_85 (d + 2) 81 [.ref 64, .ref l1, iV (l2 + 1), iV l3, iV (l4 + 1), .retAddr 0] [] u23 Q)))))))))) else ((0 ≤ (l3 * 10) + l4) ∧ (((l3 * 10) + l4 < 400) ∧ (∀ u27 : uS, u27 = wr u (l1 + 1) ((l3 * 10) + l4) (u.1 76 (u.1 73 (u.1 69 (((u.1 77 l3) * 10) + l4)))) → (K_85 (d + 2) 81 [.ref 64, .ref l1, iV l2, iV l3, iV (l4 + 1), .retAddr 0] [] u27 Q)))))))))))))) else (K_85 (d + 2) 41 [.ref 64, .ref l1, iV l2, iV (l3 + 1), .retAddr 0, .retAddr 0] [] u Q))) : K_85 (d + 2) 81 [.ref 64, .ref l1, iV l2, iV l3, iV l4, .retAddr 0] [] u Q := by
  unfold K_85
  refine u_ld (v := iV l4) (pc := 81) (dec_at lsk_85 (k := 51) rfl) rfl ?_
  refine u_c (x := 10) (pc := 83) (dec_at lsk_85 (k := 52) rfl) rfl (by decide) ?_
  have g1 := h.1
  have h := h.2
  refine u_icF (pc := 85) (tgt := 171) (dec_at lsk_85 (k := 53) rfl) rfl (ci_ge g1 (by decide)) (fun e2 => ?_) (fun e2 => ?_)
  · have h := ifT e2 h
    refine u_ld (v := .ref 64) (pc := 88) (dec_at lsk_85 (k := 54) rfl) rfl ?_
    refine u_gS (o := 5) (p := 69) (pc := 89) (dec_at lsk_85 (k := 55) rfl) f_7_29 sx_64 rfl rfl ?_
    refine u_ld (v := .ref 64) (pc := 92) (dec_at lsk_85 (k := 56) rfl) rfl ?_
    refine u_gS (o := 13) (p := 77) (pc := 93) (dec_at lsk_85 (k := 57) rfl) f_7_54 sx_64 rfl rfl ?_
    refine u_ld (v := iV l3) (pc := 96) (dec_at lsk_85 (k := 58) rfl) rfl ?_
    have g3 := h.1
    have h := h.2
    have g4 := h.1
    have h := h.2
    refine u_iald (pc := 97) (dec_at lsk_85 (k := 59) rfl) sx_77 g3 g4 ?_
    refine u_c (x := 10) (pc := 98) (dec_at lsk_85 (k := 60) rfl) rfl (by decide) ?_
    refine u_imul (pc := 100) (dec_at lsk_85 (k := 61) rfl) ?_
    refine u_ld (v := iV l4) (pc := 101) (dec_at lsk_85 (k := 62) rfl) rfl ?_
    refine u_iadd (pc := 103) (dec_at lsk_85 (k := 63) rfl) ?_
    have g5 := h.1
    have h := h.2
    have g6 := h.1
    have h := h.2
    refine u_iald (pc := 104) (dec_at lsk_85 (k := 64) rfl) sx_69 g5 g6 ?_
    refine u_sto (lv' := [.ref 64, .ref l1, iV l2, iV l3, iV l4, iV (u.1 69 (((u.1 77 l3) * 10) + l4))]) (pc := 105) (dec_at lsk_85 (k := 65) rfl) rfl ?_
    refine u_ld (v := .ref 64) (pc := 107) (dec_at lsk_85 (k := 66) rfl) rfl ?_
    refine u_gS (o := 12) (p := 76) (pc := 108) (dec_at lsk_85 (k := 67) rfl) f_7_51 sx_64 rfl rfl ?_
    refine u_ld (v := .ref 64) (pc := 111) (dec_at lsk_85 (k := 68) rfl) rfl ?_
    refine u_gS (o := 9) (p := 73) (pc := 112) (dec_at lsk_85 (k := 69) rfl) f_7_42 sx_64 rfl rfl ?_
    refine u_ld (v := iV (u.1 69 (((u.1 77 l3) * 10) + l4))) (pc := 115) (dec_at lsk_85 (k := 70) rfl) rfl ?_
    have g7 := h.1
    have h := h.2
    have g8 := h.1
    have h := h.2
    refine u_iald (pc := 117) (dec_at lsk_85 (k := 71) rfl) sx_73 g7 g8 ?_
    have g9 := h.1
    have h := h.2
    have g10 := h.1
    have h := h.2
    refine u_iald (pc := 118) (dec_at lsk_85 (k := 72) rfl) sx_76 g9 g10 ?_
    have g11 := h.1
    have h := h.2
    refine u_ifF (pc := 119) (tgt := 146) (dec_at lsk_85 (k := 73) rfl) rfl (c0_ge g11) (fun e12 => ?_) (fun e12 => ?_)
    · have h := ifT e12 h
      refine u_ld (v := .ref 64) (pc := 122) (dec_at lsk_85 (k := 74) rfl) rfl ?_
      refine u_gS (o := 12) (p := 76) (pc := 123) (dec_at lsk_85 (k := 75) rfl) f_7_51 sx_64 rfl rfl ?_
      refine u_ld (v := .ref 64) (pc := 126) (dec_at lsk_85 (k := 76) rfl) rfl ?_
      refine u_gS (o := 9) (p := 73) (pc := 127) (dec_at lsk_85 (k := 77) rfl) f_7_42 sx_64 rfl rfl ?_
      refine u_ld (v := iV (u.1 69 (((u.1 77 l3) * 10) + l4))) (pc := 130) (dec_at lsk_85 (k := 78) rfl) rfl ?_
      refine u_iald (pc := 132) (dec_at lsk_85 (k := 79) rfl) sx_73 g7 g8 ?_
      refine u_ld (v := iV l2) (pc := 133) (dec_at lsk_85 (k := 80) rfl) rfl ?_
      refine u_iast (pc := 134) (dec_at lsk_85 (k := 81) rfl) sx_76 g9 g10 (fun u13 e14 => ?_)
      have h := h u13 e14
      refine u_ld (v := .ref 64) (pc := 135) (dec_at lsk_85 (k := 82) rfl) rfl ?_
      refine u_gS (o := 13) (p := 77) (pc := 136) (dec_at lsk_85 (k := 83) rfl) f_7_54 sx_64 rfl rfl ?_
      refine u_ld (v := iV l2) (pc := 139) (dec_at lsk_85 (k := 84) rfl) rfl ?_
      refine u_ld (v := iV (u.1 69 (((u.1 77 l3) * 10) + l4))) (pc := 140) (dec_at lsk_85 (k := 85) rfl) rfl ?_
      have g15 := h.1
      have h := h.2
      have g16 := h.1
      have h := h.2
      refine u_iast (pc := 142) (dec_at lsk_85 (k := 86) rfl) sx_77 g15 g16 (fun u17 e18 => ?_)
      have h := h u17 e18
      refine u_inc (lv' := [.ref 64, .ref l1, iV (l2 + 1), iV l3, iV l4, iV (u.1 69 (((u.1 77 l3) * 10) + l4))]) (pc := 143) (dec_at lsk_85 (k := 87) rfl) rfl (by decide) rfl ?_
      refine u_ld (v := .ref l1) (pc := 146) (dec_at lsk_85 (k := 88) rfl) rfl ?_
      refine u_ld (v := iV l3) (pc := 147) (dec_at lsk_85 (k := 89) rfl) rfl ?_
      refine u_ld (v := iV l4) (pc := 148) (dec_at lsk_85 (k := 90) rfl) rfl ?_
      refine u_ld (v := .ref 64) (pc := 150) (dec_at lsk_85 (k := 91) rfl) rfl ?_
      refine u_gS (o := 12) (p := 76) (pc := 151) (dec_at lsk_85 (k := 92) rfl) f_7_51 sx_64 rfl rfl ?_
      refine u_ld (v := .ref 64) (pc := 154) (dec_at lsk_85 (k := 93) rfl) rfl ?_
      refine u_gS (o := 9) (p := 73) (pc := 155) (dec_at lsk_85 (k := 94) rfl) f_7_42 sx_64 rfl rfl ?_
      refine u_ld (v := iV (u.1 69 (((u.1 77 l3) * 10) + l4))) (pc := 158) (dec_at lsk_85 (k := 95) rfl) rfl ?_
      refine u_iald (pc := 160) (dec_at lsk_85 (k := 96) rfl) sx_73 g7 g8 ?_
      have g19 := h.1
      have h := h.2
      have g20 := h.1
      have h := h.2
      refine u_iald (pc := 161) (dec_at lsk_85 (k := 97) rfl) sx_76 g19 g20 ?_
      refine u_cvV (As := [iV l3, iV l4, iV (u17.1 76 (u17.1 73 (u.1 69 (((u.1 77 l3) * 10) + l4))))]) (rb := l1) (st2 := []) (pc := 162) (dec_at lsk_85 (k := 98) rfl) m_7_136 (Or.inl rfl) rfl (Nat.le_of_ble_eq_true rfl) hOl1 me_10 rfl ?_ (fun _ h_ => h_)
      refine u_of me_10 (Nat.le_of_ble_eq_true rfl) ?_
      refine u_ld (v := .ref l1) (pc := 0) (dec_at lsk_10 (k := 0) rfl) rfl ?_
      refine u_gS (o := 1) (p := l1 + 1) (pc := 1) (dec_at lsk_10 (k := 1) rfl) f_5_15 hOl1 rfl rfl ?_
      refine u_ld (v := iV l3) (pc := 4) (dec_at lsk_10 (k := 2) rfl) rfl ?_
      refine u_c (x := 10) (pc := 5) (dec_at lsk_10 (k := 3) rfl) rfl (by decide) ?_
      refine u_imul (pc := 7) (dec_at lsk_10 (k := 4) rfl) ?_
      refine u_ld (v := iV l4) (pc := 8) (dec_at lsk_10 (k := 5) rfl) rfl ?_
      refine u_iadd (pc := 9) (dec_at lsk_10 (k := 6) rfl) ?_
      refine u_ld (v := iV (u17.1 76 (u17.1 73 (u.1 69 (((u.1 77 l3) * 10) + l4))))) (pc := 10) (dec_at lsk_10 (k := 7) rfl) rfl ?_
      have g21 := h.1
      have h := h.2
      have g22 := h.1
      have h := h.2
      refine u_iast (pc := 11) (dec_at lsk_10 (k := 8) rfl) (sa_5_2 hOl1) g21 g22 (fun u23 e24 => ?_)
      have h := h u23 e24
      refine u_rV (pc := 12) (dec_at lsk_10 (k := 9) rfl) rfl ?_
      refine u_inc (lv' := [.ref 64, .ref l1, iV (l2 + 1), iV l3, iV (l4 + 1), iV (u.1 69 (((u.1 77 l3) * 10) + l4))]) (pc := 165) (dec_at lsk_85 (k := 99) rfl) rfl (by decide) rfl ?_
      refine u_goto (pc := 168) (tgt := 81) (dec_at lsk_85 (k := 100) rfl) rfl ?_
      exact u_weak (sbK (sbK (sbK (sbK (sbK (sbD sb0)))))) h
    · have h := ifF e12 h
      refine u_ld (v := .ref l1) (pc := 146) (dec_at lsk_85 (k := 88) rfl) rfl ?_
      refine u_ld (v := iV l3) (pc := 147) (dec_at lsk_85 (k := 89) rfl) rfl ?_
      refine u_ld (v := iV l4) (pc := 148) (dec_at lsk_85 (k := 90) rfl) rfl ?_
      refine u_ld (v := .ref 64) (pc := 150) (dec_at lsk_85 (k := 91) rfl) rfl ?_
      refine u_gS (o := 12) (p := 76) (pc := 151) (dec_at lsk_85 (k := 92) rfl) f_7_51 sx_64 rfl rfl ?_
      refine u_ld (v := .ref 64) (pc := 154) (dec_at lsk_85 (k := 93) rfl) rfl ?_
      refine u_gS (o := 9) (p := 73) (pc := 155) (dec_at lsk_85 (k := 94) rfl) f_7_42 sx_64 rfl rfl ?_
      refine u_ld (v := iV (u.1 69 (((u.1 77 l3) * 10) + l4))) (pc := 158) (dec_at lsk_85 (k := 95) rfl) rfl ?_
      refine u_iald (pc := 160) (dec_at lsk_85 (k := 96) rfl) sx_73 g7 g8 ?_
      refine u_iald (pc := 161) (dec_at lsk_85 (k := 97) rfl) sx_76 g9 g10 ?_
      refine u_cvV (As := [iV l3, iV l4, iV (u.1 76 (u.1 73 (u.1 69 (((u.1 77 l3) * 10) + l4))))]) (rb := l1) (st2 := []) (pc := 162) (dec_at lsk_85 (k := 98) rfl) m_7_136 (Or.inl rfl) rfl (Nat.le_of_ble_eq_true rfl) hOl1 me_10 rfl ?_ (fun _ h_ => h_)
      refine u_of me_10 (Nat.le_of_ble_eq_true rfl) ?_
      refine u_ld (v := .ref l1) (pc := 0) (dec_at lsk_10 (k := 0) rfl) rfl ?_
      refine u_gS (o := 1) (p := l1 + 1) (pc := 1) (dec_at lsk_10 (k := 1) rfl) f_5_15 hOl1 rfl rfl ?_
      refine u_ld (v := iV l3) (pc := 4) (dec_at lsk_10 (k := 2) rfl) rfl ?_
      refine u_c (x := 10) (pc := 5) (dec_at lsk_10 (k := 3) rfl) rfl (by decide) ?_
      refine u_imul (pc := 7) (dec_at lsk_10 (k := 4) rfl) ?_
      refine u_ld (v := iV l4) (pc := 8) (dec_at lsk_10 (k := 5) rfl) rfl ?_
      refine u_iadd (pc := 9) (dec_at lsk_10 (k := 6) rfl) ?_
      refine u_ld (v := iV (u.1 76 (u.1 73 (u.1 69 (((u.1 77 l3) * 10) + l4))))) (pc := 10) (dec_at lsk_10 (k := 7) rfl) rfl ?_
      have g25 := h.1
      have h := h.2
      have g26 := h.1
      have h := h.2
      refine u_iast (pc := 11) (dec_at lsk_10 (k := 8) rfl) (sa_5_2 hOl1) g25 g26 (fun u27 e28 => ?_)
      have h := h u27 e28
      refine u_rV (pc := 12) (dec_at lsk_10 (k := 9) rfl) rfl ?_
      refine u_inc (lv' := [.ref 64, .ref l1, iV l2, iV l3, iV (l4 + 1), iV (u.1 69 (((u.1 77 l3) * 10) + l4))]) (pc := 165) (dec_at lsk_85 (k := 99) rfl) rfl (by decide) rfl ?_
      refine u_goto (pc := 168) (tgt := 81) (dec_at lsk_85 (k := 100) rfl) rfl ?_
      exact u_weak (sbK (sbK (sbK (sbK (sbK (sbD sb0)))))) h
  · have h := ifF e2 h
    refine u_inc (lv' := [.ref 64, .ref l1, iV l2, iV (l3 + 1), iV l4, .retAddr 0]) (pc := 171) (dec_at lsk_85 (k := 101) rfl) rfl (by decide) rfl ?_
    refine u_goto (pc := 174) (tgt := 41) (dec_at lsk_85 (k := 102) rfl) rfl ?_
    exact u_weak (sbK (sbK (sbK (sbK (sbD (sbK sb0)))))) h
/-- method 64 -/
def K_64 (d pc : Nat) (lv : ev_L) (st : List Value) (u : uS) (Q : Int → uS → Prop) : Prop := okU d 6 3 false (some .int) prog_2_method_2_code (qI Q) pc lv st u
theorem e_64 {d : Nat} {Q : Int → uS → Prop} {u : uS} (h : ∀ u1 : uS, u1 = wr u 63 0 0 → (∀ u3 : uS, u3 = wr u1 63 1 0 → (∀ u5 : uS, u5 = wr u3 63 2 0 → (K_64 (d + 1) 17 [.ref 63, .ref 1, iV 0] [] u5 Q)))) : cI (d + 2) 64 [.ref 63, .ref 1] u Q := by
  refine u_of me_64 (Nat.le_of_ble_eq_true rfl) ?_
  refine u_ld (v := .ref 63) (pc := 0) (dec_at lsk_64 (k := 0) rfl) rfl ?_
  refine u_ld (v := iV 0) (pc := 1) (dec_at lsk_64 (k := 1) rfl) rfl ?_
  refine u_pI (z := 0) (pc := 2) (dec_at lsk_64 (k := 2) rfl) f_6_54 sx_63 rfl rfl rfl rfl (fun u1 e2 => ?_)
  have h := h u1 e2
  refine u_ld (v := .ref 63) (pc := 5) (dec_at lsk_64 (k := 3) rfl) rfl ?_
  refine u_ld (v := iV 0) (pc := 6) (dec_at lsk_64 (k := 4) rfl) rfl ?_
  refine u_pZ (z := 1) (pc := 7) (dec_at lsk_64 (k := 5) rfl) f_6_58 sx_63 rfl rfl rfl rfl (by decide) (fun u3 e4 => ?_)
  have h := h u3 e4
  refine u_ld (v := .ref 63) (pc := 10) (dec_at lsk_64 (k := 6) rfl) rfl ?_
  refine u_ld (v := iV 0) (pc := 11) (dec_at lsk_64 (k := 7) rfl) rfl ?_
  refine u_pZ (z := 2) (pc := 12) (dec_at lsk_64 (k := 8) rfl) f_6_62 sx_63 rfl rfl rfl rfl (by decide) (fun u5 e6 => ?_)
  have h := h u5 e6
  refine u_ld (v := iV 0) (pc := 15) (dec_at lsk_64 (k := 9) rfl) rfl ?_
  refine u_sto (lv' := [.ref 63, .ref 1, iV 0]) (pc := 16) (dec_at lsk_64 (k := 10) rfl) rfl ?_
  exact h
theorem k_64_17 {d : Nat} {Q : Int → uS → Prop} {u : uS} {l2 : Int} (h : (rI l2) ∧ ((rI (u.1 1 5)) ∧ (if l2 < u.1 1 5 then ((0 ≤ l2) ∧ ((l2 < 300) ∧ (cI (d + 1) 65 [.ref 63, iV (u.1 3 l2)] u (fun r8 u7 => (rI r8) ∧ (if r8 = 0 then ((rI (u7.1 1 5)) ∧ (if l2 < u7.1 1 5 then (Q (u7.1 4 l2) u7) else (Q (u7.1 1 3) u7))) else (K_64 (d + 1) 17 [.ref 63, .ref 1, iV (l2 + 1)] [] u7 Q)))))) else ((rI (u.1 63 0)) ∧ (if 0 < u.1 63 0 then (if u.1 1 5 < u.1 1 5 then ((0 ≤ u.1 1 5) ∧ ((u.1 1 5 < 300) ∧ (Q (u.1 4 (u.1 1 5)) u))) else (Q (u.1 1 3) u)) else ((rI (u.1 63 2)) ∧ (if u.1 63 2 = 0 then (Q (-1) u) else (if u.1 1 5 < u.1 1 5 then ((0 ≤ u.1 1 5) ∧ ((u.1 1 5 < 300) ∧ (Q (u.1 4 (u.1 1 5)) u))) else (Q (u.1 1 3) u))))))))) : K_64 (d + 1) 17 [.ref 63, .ref 1, iV l2] [] u Q := by
  unfold K_64
  refine u_ld (v := iV l2) (pc := 17) (dec_at lsk_64 (k := 11) rfl) rfl ?_
  refine u_ld (v := .ref 1) (pc := 18) (dec_at lsk_64 (k := 12) rfl) rfl ?_
  refine u_gI (z := 5) (pc := 19) (dec_at lsk_64 (k := 13) rfl) f_6_65 sx_1 rfl rfl ?_
  have g1 := h.1
  have h := h.2
  have g2 := h.1
  have h := h.2
  refine u_icF (pc := 22) (tgt := 49) (dec_at lsk_64 (k := 14) rfl) rfl (ci_ge g1 g2) (fun e3 => ?_) (fun e3 => ?_)
  · have h := ifT e3 h
    refine u_ld (v := .ref 63) (pc := 25) (dec_at lsk_64 (k := 15) rfl) rfl ?_
    refine u_ld (v := .ref 1) (pc := 26) (dec_at lsk_64 (k := 16) rfl) rfl ?_
    refine u_ld (v := iV l2) (pc := 27) (dec_at lsk_64 (k := 17) rfl) rfl ?_
    refine u_cvI (As := [iV l2]) (rb := 1) (st2 := [.ref 63]) (pc := 28) (dec_at lsk_64 (k := 18) rfl) m_6_70 (Or.inl rfl) rfl (Nat.le_of_ble_eq_true rfl) sx_1 me_20 rfl ?_ (fun _ _ h_ => h_)
    refine u_of me_20 (Nat.le_of_ble_eq_true rfl) ?_
    refine u_ld (v := iV l2) (pc := 0) (dec_at lsk_20 (k := 0) rfl) rfl ?_
    refine u_ld (v := .ref 1) (pc := 1) (dec_at lsk_20 (k := 1) rfl) rfl ?_
    refine u_gI (z := 5) (pc := 2) (dec_at lsk_20 (k := 2) rfl) f_1_25 sx_1 rfl rfl ?_
    refine u_icF (pc := 5) (tgt := 17) (dec_at lsk_20 (k := 3) rfl) rfl (ci_ge g1 g2) (fun _ => ?_) (fun e4 => absurd e3 e4)
    refine u_ld (v := .ref 1) (pc := 8) (dec_at lsk_20 (k := 4) rfl) rfl ?_
    refine u_gS (o := 2) (p := 3) (pc := 9) (dec_at lsk_20 (k := 5) rfl) f_1_15 sx_1 rfl rfl ?_
    refine u_ld (v := iV l2) (pc := 12) (dec_at lsk_20 (k := 6) rfl) rfl ?_
    have g5 := h.1
    have h := h.2
    have g6 := h.1
    have h := h.2
    refine u_iald (pc := 13) (dec_at lsk_20 (k := 7) rfl) sx_3 g5 g6 ?_
    refine u_goto (pc := 14) (tgt := 18) (dec_at lsk_20 (k := 8) rfl) rfl ?_
    refine u_rI (pc := 18) (dec_at lsk_20 (k := 10) rfl) rfl ?_
    refine u_cvI (As := [iV (u.1 3 l2)]) (rb := 63) (st2 := []) (pc := 31) (dec_at lsk_64 (k := 19) rfl) m_6_74 (Or.inl rfl) rfl (Nat.le_of_ble_eq_true rfl) sx_63 me_65 rfl h (fun r8 u7 h => ?_)
    have g9 := h.1
    have h := h.2
    refine u_ifF (pc := 34) (tgt := 43) (dec_at lsk_64 (k := 20) rfl) rfl (c0_ne g9) (fun e10 => ?_) (fun e10 => ?_)
    · have h := ifT e10 h
      refine u_ld (v := .ref 1) (pc := 37) (dec_at lsk_64 (k := 21) rfl) rfl ?_
      refine u_ld (v := iV l2) (pc := 38) (dec_at lsk_64 (k := 22) rfl) rfl ?_
      refine u_cvI (As := [iV l2]) (rb := 1) (st2 := []) (pc := 39) (dec_at lsk_64 (k := 23) rfl) m_6_78 (Or.inl rfl) rfl (Nat.le_of_ble_eq_true rfl) sx_1 me_22 rfl ?_ (fun _ _ h_ => h_)
      refine u_of me_22 (Nat.le_of_ble_eq_true rfl) ?_
      refine u_ld (v := iV l2) (pc := 0) (dec_at lsk_22 (k := 0) rfl) rfl ?_
      refine u_ld (v := .ref 1) (pc := 1) (dec_at lsk_22 (k := 1) rfl) rfl ?_
      refine u_gI (z := 5) (pc := 2) (dec_at lsk_22 (k := 2) rfl) f_1_25 sx_1 rfl rfl ?_
      have g11 := h.1
      have h := h.2
      refine u_icF (pc := 5) (tgt := 17) (dec_at lsk_22 (k := 3) rfl) rfl (ci_ge g1 g11) (fun e12 => ?_) (fun e12 => ?_)
      · have h := ifT e12 h
        refine u_ld (v := .ref 1) (pc := 8) (dec_at lsk_22 (k := 4) rfl) rfl ?_
        refine u_gS (o := 3) (p := 4) (pc := 9) (dec_at lsk_22 (k := 5) rfl) f_1_18 sx_1 rfl rfl ?_
        refine u_ld (v := iV l2) (pc := 12) (dec_at lsk_22 (k := 6) rfl) rfl ?_
        refine u_iald (pc := 13) (dec_at lsk_22 (k := 7) rfl) sx_4 g5 g6 ?_
        refine u_goto (pc := 14) (tgt := 21) (dec_at lsk_22 (k := 8) rfl) rfl ?_
        refine u_rI (pc := 21) (dec_at lsk_22 (k := 11) rfl) rfl ?_
        exact u_rI (pc := 42) (dec_at lsk_64 (k := 24) rfl) rfl h
      · have h := ifF e12 h
        refine u_ld (v := .ref 1) (pc := 17) (dec_at lsk_22 (k := 9) rfl) rfl ?_
        refine u_gI (z := 3) (pc := 18) (dec_at lsk_22 (k := 10) rfl) f_1_28 sx_1 rfl rfl ?_
        refine u_rI (pc := 21) (dec_at lsk_22 (k := 11) rfl) rfl ?_
        exact u_rI (pc := 42) (dec_at lsk_64 (k := 24) rfl) rfl h
    · have h := ifF e10 h
      refine u_inc (lv' := [.ref 63, .ref 1, iV (l2 + 1)]) (pc := 43) (dec_at lsk_64 (k := 25) rfl) rfl (by decide) rfl ?_
      refine u_goto (pc := 46) (tgt := 17) (dec_at lsk_64 (k := 26) rfl) rfl ?_
      exact h
  · have h := ifF e3 h
    refine u_ld (v := .ref 63) (pc := 49) (dec_at lsk_64 (k := 27) rfl) rfl ?_
    refine u_gI (z := 0) (pc := 50) (dec_at lsk_64 (k := 28) rfl) f_6_54 sx_63 rfl rfl ?_
    have g13 := h.1
    have h := h.2
    refine u_ifT (pc := 53) (tgt := 63) (dec_at lsk_64 (k := 29) rfl) rfl (c0_gt g13) (fun e14 => ?_) (fun e14 => ?_)
    · have h := ifT e14 h
      refine u_ld (v := .ref 1) (pc := 63) (dec_at lsk_64 (k := 33) rfl) rfl ?_
      refine u_ld (v := .ref 1) (pc := 64) (dec_at lsk_64 (k := 34) rfl) rfl ?_
      refine u_gI (z := 5) (pc := 65) (dec_at lsk_64 (k := 35) rfl) f_6_65 sx_1 rfl rfl ?_
      refine u_cvI (As := [iV (u.1 1 5)]) (rb := 1) (st2 := []) (pc := 68) (dec_at lsk_64 (k := 36) rfl) m_6_78 (Or.inl rfl) rfl (Nat.le_of_ble_eq_true rfl) sx_1 me_22 rfl ?_ (fun _ _ h_ => h_)
      refine u_of me_22 (Nat.le_of_ble_eq_true rfl) ?_
      refine u_ld (v := iV (u.1 1 5)) (pc := 0) (dec_at lsk_22 (k := 0) rfl) rfl ?_
      refine u_ld (v := .ref 1) (pc := 1) (dec_at lsk_22 (k := 1) rfl) rfl ?_
      refine u_gI (z := 5) (pc := 2) (dec_at lsk_22 (k := 2) rfl) f_1_25 sx_1 rfl rfl ?_
      refine u_icF (pc := 5) (tgt := 17) (dec_at lsk_22 (k := 3) rfl) rfl (ci_ge g2 g2) (fun e15 => ?_) (fun e15 => ?_)
      · have h := ifT e15 h
        refine u_ld (v := .ref 1) (pc := 8) (dec_at lsk_22 (k := 4) rfl) rfl ?_
        refine u_gS (o := 3) (p := 4) (pc := 9) (dec_at lsk_22 (k := 5) rfl) f_1_18 sx_1 rfl rfl ?_
        refine u_ld (v := iV (u.1 1 5)) (pc := 12) (dec_at lsk_22 (k := 6) rfl) rfl ?_
        have g16 := h.1
        have h := h.2
        have g17 := h.1
        have h := h.2
        refine u_iald (pc := 13) (dec_at lsk_22 (k := 7) rfl) sx_4 g16 g17 ?_
        refine u_goto (pc := 14) (tgt := 21) (dec_at lsk_22 (k := 8) rfl) rfl ?_
        refine u_rI (pc := 21) (dec_at lsk_22 (k := 11) rfl) rfl ?_
        refine u_goto (pc := 71) (tgt := 75) (dec_at lsk_64 (k := 37) rfl) rfl ?_
        exact u_rI (pc := 75) (dec_at lsk_64 (k := 39) rfl) rfl h
      · have h := ifF e15 h
        refine u_ld (v := .ref 1) (pc := 17) (dec_at lsk_22 (k := 9) rfl) rfl ?_
        refine u_gI (z := 3) (pc := 18) (dec_at lsk_22 (k := 10) rfl) f_1_28 sx_1 rfl rfl ?_
        refine u_rI (pc := 21) (dec_at lsk_22 (k := 11) rfl) rfl ?_
        refine u_goto (pc := 71) (tgt := 75) (dec_at lsk_64 (k := 37) rfl) rfl ?_
        exact u_rI (pc := 75) (dec_at lsk_64 (k := 39) rfl) rfl h
    · have h := ifF e14 h
      refine u_ld (v := .ref 63) (pc := 56) (dec_at lsk_64 (k := 30) rfl) rfl ?_
      refine u_gZ (z := 2) (pc := 57) (dec_at lsk_64 (k := 31) rfl) f_6_62 sx_63 rfl rfl ?_
      have g18 := h.1
      have h := h.2
      refine u_ifT (pc := 60) (tgt := 74) (dec_at lsk_64 (k := 32) rfl) rfl (c0_eq g18) (fun e19 => ?_) (fun e19 => ?_)
      · have h := ifT e19 h
        refine u_ld (v := iV (-1)) (pc := 74) (dec_at lsk_64 (k := 38) rfl) rfl ?_
        exact u_rI (pc := 75) (dec_at lsk_64 (k := 39) rfl) rfl h
      · have h := ifF e19 h
        refine u_ld (v := .ref 1) (pc := 63) (dec_at lsk_64 (k := 33) rfl) rfl ?_
        refine u_ld (v := .ref 1) (pc := 64) (dec_at lsk_64 (k := 34) rfl) rfl ?_
        refine u_gI (z := 5) (pc := 65) (dec_at lsk_64 (k := 35) rfl) f_6_65 sx_1 rfl rfl ?_
        refine u_cvI (As := [iV (u.1 1 5)]) (rb := 1) (st2 := []) (pc := 68) (dec_at lsk_64 (k := 36) rfl) m_6_78 (Or.inl rfl) rfl (Nat.le_of_ble_eq_true rfl) sx_1 me_22 rfl ?_ (fun _ _ h_ => h_)
        refine u_of me_22 (Nat.le_of_ble_eq_true rfl) ?_
        refine u_ld (v := iV (u.1 1 5)) (pc := 0) (dec_at lsk_22 (k := 0) rfl) rfl ?_
        refine u_ld (v := .ref 1) (pc := 1) (dec_at lsk_22 (k := 1) rfl) rfl ?_
        refine u_gI (z := 5) (pc := 2) (dec_at lsk_22 (k := 2) rfl) f_1_25 sx_1 rfl rfl ?_
        refine u_icF (pc := 5) (tgt := 17) (dec_at lsk_22 (k := 3) rfl) rfl (ci_ge g2 g2) (fun e20 => ?_) (fun e20 => ?_)
        · have h := ifT e20 h
          refine u_ld (v := .ref 1) (pc := 8) (dec_at lsk_22 (k := 4) rfl) rfl ?_
          refine u_gS (o := 3) (p := 4) (pc := 9) (dec_at lsk_22 (k := 5) rfl) f_1_18 sx_1 rfl rfl ?_
          refine u_ld (v := iV (u.1 1 5)) (pc := 12) (dec_at lsk_22 (k := 6) rfl) rfl ?_
          have g21 := h.1
          have h := h.2
          have g22 := h.1
          have h := h.2
          refine u_iald (pc := 13) (dec_at lsk_22 (k := 7) rfl) sx_4 g21 g22 ?_
          refine u_goto (pc := 14) (tgt := 21) (dec_at lsk_22 (k := 8) rfl) rfl ?_
          refine u_rI (pc := 21) (dec_at lsk_22 (k := 11) rfl) rfl ?_
          refine u_goto (pc := 71) (tgt := 75) (dec_at lsk_64 (k := 37) rfl) rfl ?_
          exact u_rI (pc := 75) (dec_at lsk_64 (k := 39) rfl) rfl h
        · have h := ifF e20 h
          refine u_ld (v := .ref 1) (pc := 17) (dec_at lsk_22 (k := 9) rfl) rfl ?_
          refine u_gI (z := 3) (pc := 18) (dec_at lsk_22 (k := 10) rfl) f_1_28 sx_1 rfl rfl ?_
          refine u_rI (pc := 21) (dec_at lsk_22 (k := 11) rfl) rfl ?_
          refine u_goto (pc := 71) (tgt := 75) (dec_at lsk_64 (k := 37) rfl) rfl ?_
          exact u_rI (pc := 75) (dec_at lsk_64 (k := 39) rfl) rfl h
/-- method 65 -/
def K_65 (d pc : Nat) (lv : ev_L) (st : List Value) (u : uS) (Q : Int → uS → Prop) : Prop := okU d 6 3 false (some .boolean) prog_2_method_3_code (qI Q) pc lv st u
theorem e_65 {d : Nat} {Q : Int → uS → Prop} {u : uS} {l1 : Int} (h : (rI l1) ∧ (if l1 = 38 then ((rI (u.1 63 2)) ∧ (if u.1 63 2 = 0 then (K_65 (d + 2) 169 [.ref 63, iV l1, iV 1] [] u Q) else (K_65 (d + 2) 169 [.ref 63, iV l1, iV 0] [] u Q))) else (if l1 = 40 then ((rI (u.1 63 0)) ∧ (if u.1 63 0 < 15 then (∀ u8 : uS, u8 = wr u 63 0 ((u.1 63 0) + 1) → (K_65 (d + 2) 169 [.ref 63, iV l1, iV 1] [] u8 Q)) else (∀ u10 : uS, u10 = wr u 63 0 ((u.1 63 0) + 1) → (K_65 (d + 2) 169 [.ref 63, iV l1, iV 0] [] u10 Q)))) else (if l1 = 41 then ((rI (u.1 63 0)) ∧ (if 0 < u.1 63 0 then ((rI (u.1 63 2)) ∧ (if u.1 63 2 = 0 then (∀ u17 : uS, u17 = wr u 63 0 ((u.1 63 0) - 1) → (K_65 (d + 2) 169 [.ref 63, iV l1, iV 1] [] u17 Q)) else (∀ u19 : uS, u19 = wr u 63 0 ((u.1 63 0) - 1) → (K_65 (d + 2) 169 [.ref 63, iV l1, iV 0] [] u19 Q)))) else (∀ u21 : uS, u21 = wr u 63 0 ((u.1 63 0) - 1) → (K_65 (d + 2) 169 [.ref 63, iV l1, iV 0] [] u21 Q)))) else (if l1 = 42 then ((u.1 63 1 = 0 ∨ u.1 63 1 = 1) ∧ (Q (u.1 63 1) u)) else (if l1 = 43 then ((u.1 63 1 = 0 ∨ u.1 63 1 = 1) ∧ (Q (u.1 63 1) u)) else (if l1 = 63 then ((u.1 63 1 = 0 ∨ u.1 63 1 = 1) ∧ (Q (u.1 63 1) u)) else (if l1 = 124 then ((rI (u.1 63 2)) ∧ (if u.1 63 2 = 0 then (K_65 (d + 2) 169 [.ref 63, iV l1, iV 1] [] u Q) else (K_65 (d + 2) 169 [.ref 63, iV l1, iV 0] [] u Q))) else (if l1 = 33 then (K_65 (d + 2) 169 [.ref 63, iV l1, iV 1] [] u Q) else (if l1 = 46 then (K_65 (d + 2) 169 [.ref 63, iV l1, iV 1] [] u Q) else (if l1 = 48 then (K_65 (d + 2) 169 [.ref 63, iV l1, iV 1] [] u Q) else (if l1 < 97 then (K_65 (d + 2) 169 [.ref 63, iV l1, iV 0] [] u Q) else (if l1 < 107 then (K_65 (d + 2) 169 [.ref 63, iV l1, iV 1] [] u Q) else (K_65 (d + 2) 169 [.ref 63, iV l1, iV 0] [] u Q)))))))))))))) : cI (d + 3) 65 [.ref 63, iV l1] u Q := by
  refine u_of me_65 (Nat.le_of_ble_eq_true rfl) ?_
  refine u_ld (v := iV l1) (pc := 0) (dec_at lsk_65 (k := 0) rfl) rfl ?_
  have g1 := h.1
  have h := h.2
  by_cases e2 : l1 = 38
  · have h := ifT e2 h
    refine u_lsw (pc := 1) (tgt := 134) (o := 133) (dec_at lsk_65 (k := 1) rfl) rfl rfl g1 (by rw [lo_eq e2]) rfl ?_
    refine u_ld (v := .ref 63) (pc := 134) (dec_at lsk_65 (k := 37) rfl) rfl ?_
    refine u_gZ (z := 2) (pc := 135) (dec_at lsk_65 (k := 38) rfl) f_6_62 sx_63 rfl rfl ?_
    have g3 := h.1
    have h := h.2
    refine u_ifF (pc := 138) (tgt := 145) (dec_at lsk_65 (k := 39) rfl) rfl (c0_ne g3) (fun e4 => ?_) (fun e4 => ?_)
    · have h := ifT e4 h
      refine u_ld (v := iV 1) (pc := 141) (dec_at lsk_65 (k := 40) rfl) rfl ?_
      refine u_goto (pc := 142) (tgt := 146) (dec_at lsk_65 (k := 41) rfl) rfl ?_
      refine u_sto (lv' := [.ref 63, iV l1, iV 1]) (pc := 146) (dec_at lsk_65 (k := 43) rfl) rfl ?_
      refine u_goto (pc := 147) (tgt := 169) (dec_at lsk_65 (k := 44) rfl) rfl ?_
      exact h
    · have h := ifF e4 h
      refine u_ld (v := iV 0) (pc := 145) (dec_at lsk_65 (k := 42) rfl) rfl ?_
      refine u_sto (lv' := [.ref 63, iV l1, iV 0]) (pc := 146) (dec_at lsk_65 (k := 43) rfl) rfl ?_
      refine u_goto (pc := 147) (tgt := 169) (dec_at lsk_65 (k := 44) rfl) rfl ?_
      exact h
  · have h := ifF e2 h
    by_cases e5 : l1 = 40
    · have h := ifT e5 h
      refine u_lsw (pc := 1) (tgt := 73) (o := 72) (dec_at lsk_65 (k := 1) rfl) rfl rfl g1 (by rw [lo_ne e2, lo_eq e5]) rfl ?_
      refine u_ld (v := .ref 63) (pc := 73) (dec_at lsk_65 (k := 5) rfl) rfl ?_
      refine u_gI (z := 0) (pc := 74) (dec_at lsk_65 (k := 6) rfl) f_6_54 sx_63 rfl rfl ?_
      refine u_c (x := 15) (pc := 77) (dec_at lsk_65 (k := 7) rfl) rfl (by decide) ?_
      have g6 := h.1
      have h := h.2
      refine u_icF (pc := 79) (tgt := 86) (dec_at lsk_65 (k := 8) rfl) rfl (ci_ge g6 (by decide)) (fun e7 => ?_) (fun e7 => ?_)
      · have h := ifT e7 h
        refine u_ld (v := iV 1) (pc := 82) (dec_at lsk_65 (k := 9) rfl) rfl ?_
        refine u_goto (pc := 83) (tgt := 87) (dec_at lsk_65 (k := 10) rfl) rfl ?_
        refine u_sto (lv' := [.ref 63, iV l1, iV 1]) (pc := 87) (dec_at lsk_65 (k := 12) rfl) rfl ?_
        refine u_ld (v := .ref 63) (pc := 88) (dec_at lsk_65 (k := 13) rfl) rfl ?_
        refine u_ld (v := .ref 63) (pc := 89) (dec_at lsk_65 (k := 14) rfl) rfl ?_
        refine u_gI (z := 0) (pc := 90) (dec_at lsk_65 (k := 15) rfl) f_6_54 sx_63 rfl rfl ?_
        refine u_ld (v := iV 1) (pc := 93) (dec_at lsk_65 (k := 16) rfl) rfl ?_
        refine u_iadd (pc := 94) (dec_at lsk_65 (k := 17) rfl) ?_
        refine u_pI (z := 0) (pc := 95) (dec_at lsk_65 (k := 18) rfl) f_6_54 sx_63 rfl rfl rfl rfl (fun u8 e9 => ?_)
        have h := h u8 e9
        refine u_goto (pc := 98) (tgt := 169) (dec_at lsk_65 (k := 19) rfl) rfl ?_
        exact h
      · have h := ifF e7 h
        refine u_ld (v := iV 0) (pc := 86) (dec_at lsk_65 (k := 11) rfl) rfl ?_
        refine u_sto (lv' := [.ref 63, iV l1, iV 0]) (pc := 87) (dec_at lsk_65 (k := 12) rfl) rfl ?_
        refine u_ld (v := .ref 63) (pc := 88) (dec_at lsk_65 (k := 13) rfl) rfl ?_
        refine u_ld (v := .ref 63) (pc := 89) (dec_at lsk_65 (k := 14) rfl) rfl ?_
        refine u_gI (z := 0) (pc := 90) (dec_at lsk_65 (k := 15) rfl) f_6_54 sx_63 rfl rfl ?_
        refine u_ld (v := iV 1) (pc := 93) (dec_at lsk_65 (k := 16) rfl) rfl ?_
        refine u_iadd (pc := 94) (dec_at lsk_65 (k := 17) rfl) ?_
        refine u_pI (z := 0) (pc := 95) (dec_at lsk_65 (k := 18) rfl) f_6_54 sx_63 rfl rfl rfl rfl (fun u10 e11 => ?_)
        have h := h u10 e11
        refine u_goto (pc := 98) (tgt := 169) (dec_at lsk_65 (k := 19) rfl) rfl ?_
        exact h
    · have h := ifF e5 h
      by_cases e12 : l1 = 41
      · have h := ifT e12 h
        refine u_lsw (pc := 1) (tgt := 101) (o := 100) (dec_at lsk_65 (k := 1) rfl) rfl rfl g1 (by rw [lo_ne e2, lo_ne e5, lo_eq e12]) rfl ?_
        refine u_ld (v := .ref 63) (pc := 101) (dec_at lsk_65 (k := 20) rfl) rfl ?_
        refine u_gI (z := 0) (pc := 102) (dec_at lsk_65 (k := 21) rfl) f_6_54 sx_63 rfl rfl ?_
        have g13 := h.1
        have h := h.2
        refine u_ifF (pc := 105) (tgt := 119) (dec_at lsk_65 (k := 22) rfl) rfl (c0_le g13) (fun e14 => ?_) (fun e14 => ?_)
        · have h := ifT e14 h
          refine u_ld (v := .ref 63) (pc := 108) (dec_at lsk_65 (k := 23) rfl) rfl ?_
          refine u_gZ (z := 2) (pc := 109) (dec_at lsk_65 (k := 24) rfl) f_6_62 sx_63 rfl rfl ?_
          have g15 := h.1
          have h := h.2
          refine u_ifF (pc := 112) (tgt := 119) (dec_at lsk_65 (k := 25) rfl) rfl (c0_ne g15) (fun e16 => ?_) (fun e16 => ?_)
          · have h := ifT e16 h
            refine u_ld (v := iV 1) (pc := 115) (dec_at lsk_65 (k := 26) rfl) rfl ?_
            refine u_goto (pc := 116) (tgt := 120) (dec_at lsk_65 (k := 27) rfl) rfl ?_
            refine u_sto (lv' := [.ref 63, iV l1, iV 1]) (pc := 120) (dec_at lsk_65 (k := 29) rfl) rfl ?_
            refine u_ld (v := .ref 63) (pc := 121) (dec_at lsk_65 (k := 30) rfl) rfl ?_
            refine u_ld (v := .ref 63) (pc := 122) (dec_at lsk_65 (k := 31) rfl) rfl ?_
            refine u_gI (z := 0) (pc := 123) (dec_at lsk_65 (k := 32) rfl) f_6_54 sx_63 rfl rfl ?_
            refine u_ld (v := iV 1) (pc := 126) (dec_at lsk_65 (k := 33) rfl) rfl ?_
            refine u_isub (pc := 127) (dec_at lsk_65 (k := 34) rfl) ?_
            refine u_pI (z := 0) (pc := 128) (dec_at lsk_65 (k := 35) rfl) f_6_54 sx_63 rfl rfl rfl rfl (fun u17 e18 => ?_)
            have h := h u17 e18
            refine u_goto (pc := 131) (tgt := 169) (dec_at lsk_65 (k := 36) rfl) rfl ?_
            exact h
          · have h := ifF e16 h
            refine u_ld (v := iV 0) (pc := 119) (dec_at lsk_65 (k := 28) rfl) rfl ?_
            refine u_sto (lv' := [.ref 63, iV l1, iV 0]) (pc := 120) (dec_at lsk_65 (k := 29) rfl) rfl ?_
            refine u_ld (v := .ref 63) (pc := 121) (dec_at lsk_65 (k := 30) rfl) rfl ?_
            refine u_ld (v := .ref 63) (pc := 122) (dec_at lsk_65 (k := 31) rfl) rfl ?_
            refine u_gI (z := 0) (pc := 123) (dec_at lsk_65 (k := 32) rfl) f_6_54 sx_63 rfl rfl ?_
            refine u_ld (v := iV 1) (pc := 126) (dec_at lsk_65 (k := 33) rfl) rfl ?_
            refine u_isub (pc := 127) (dec_at lsk_65 (k := 34) rfl) ?_
            refine u_pI (z := 0) (pc := 128) (dec_at lsk_65 (k := 35) rfl) f_6_54 sx_63 rfl rfl rfl rfl (fun u19 e20 => ?_)
            have h := h u19 e20
            refine u_goto (pc := 131) (tgt := 169) (dec_at lsk_65 (k := 36) rfl) rfl ?_
            exact h
        · have h := ifF e14 h
          refine u_ld (v := iV 0) (pc := 119) (dec_at lsk_65 (k := 28) rfl) rfl ?_
          refine u_sto (lv' := [.ref 63, iV l1, iV 0]) (pc := 120) (dec_at lsk_65 (k := 29) rfl) rfl ?_
          refine u_ld (v := .ref 63) (pc := 121) (dec_at lsk_65 (k := 30) rfl) rfl ?_
          refine u_ld (v := .ref 63) (pc := 122) (dec_at lsk_65 (k := 31) rfl) rfl ?_
          refine u_gI (z := 0) (pc := 123) (dec_at lsk_65 (k := 32) rfl) f_6_54 sx_63 rfl rfl ?_
          refine u_ld (v := iV 1) (pc := 126) (dec_at lsk_65 (k := 33) rfl) rfl ?_
          refine u_isub (pc := 127) (dec_at lsk_65 (k := 34) rfl) ?_
          refine u_pI (z := 0) (pc := 128) (dec_at lsk_65 (k := 35) rfl) f_6_54 sx_63 rfl rfl rfl rfl (fun u21 e22 => ?_)
          have h := h u21 e22
          refine u_goto (pc := 131) (tgt := 169) (dec_at lsk_65 (k := 36) rfl) rfl ?_
          exact h
      · have h := ifF e12 h
        by_cases e23 : l1 = 42
        · have h := ifT e23 h
          refine u_lsw (pc := 1) (tgt := 68) (o := 67) (dec_at lsk_65 (k := 1) rfl) rfl rfl g1 (by rw [lo_ne e2, lo_ne e5, lo_ne e12, lo_eq e23]) rfl ?_
          refine u_ld (v := .ref 63) (pc := 68) (dec_at lsk_65 (k := 2) rfl) rfl ?_
          refine u_gZ (z := 1) (pc := 69) (dec_at lsk_65 (k := 3) rfl) f_6_58 sx_63 rfl rfl ?_
          have g24 := h.1
          have h := h.2
          exact u_rZ (pc := 72) (dec_at lsk_65 (k := 4) rfl) rfl g24 h
        · have h := ifF e23 h
          by_cases e25 : l1 = 43
          · have h := ifT e25 h
            refine u_lsw (pc := 1) (tgt := 68) (o := 67) (dec_at lsk_65 (k := 1) rfl) rfl rfl g1 (by rw [lo_ne e2, lo_ne e5, lo_ne e12, lo_ne e23, lo_eq e25]) rfl ?_
            refine u_ld (v := .ref 63) (pc := 68) (dec_at lsk_65 (k := 2) rfl) rfl ?_
            refine u_gZ (z := 1) (pc := 69) (dec_at lsk_65 (k := 3) rfl) f_6_58 sx_63 rfl rfl ?_
            have g26 := h.1
            have h := h.2
            exact u_rZ (pc := 72) (dec_at lsk_65 (k := 4) rfl) rfl g26 h
          · have h := ifF e25 h
            by_cases e27 : l1 = 63
            · have h := ifT e27 h
              refine u_lsw (pc := 1) (tgt := 68) (o := 67) (dec_at lsk_65 (k := 1) rfl) rfl rfl g1 (by rw [lo_ne e2, lo_ne e5, lo_ne e12, lo_ne e23, lo_ne e25, lo_eq e27]) rfl ?_
              refine u_ld (v := .ref 63) (pc := 68) (dec_at lsk_65 (k := 2) rfl) rfl ?_
              refine u_gZ (z := 1) (pc := 69) (dec_at lsk_65 (k := 3) rfl) f_6_58 sx_63 rfl rfl ?_
              have g28 := h.1
              have h := h.2
              exact u_rZ (pc := 72) (dec_at lsk_65 (k := 4) rfl) rfl g28 h
            · have h := ifF e27 h
              by_cases e29 : l1 = 124
              · have h := ifT e29 h
                refine u_lsw (pc := 1) (tgt := 134) (o := 133) (dec_at lsk_65 (k := 1) rfl) rfl rfl g1 (by rw [lo_ne e2, lo_ne e5, lo_ne e12, lo_ne e23, lo_ne e25, lo_ne e27, lo_eq e29]) rfl ?_
                refine u_ld (v := .ref 63) (pc := 134) (dec_at lsk_65 (k := 37) rfl) rfl ?_
                refine u_gZ (z := 2) (pc := 135) (dec_at lsk_65 (k := 38) rfl) f_6_62 sx_63 rfl rfl ?_
                have g30 := h.1
                have h := h.2
                refine u_ifF (pc := 138) (tgt := 145) (dec_at lsk_65 (k := 39) rfl) rfl (c0_ne g30) (fun e31 => ?_) (fun e31 => ?_)
                · have h := ifT e31 h
                  refine u_ld (v := iV 1) (pc := 141) (dec_at lsk_65 (k := 40) rfl) rfl ?_
                  refine u_goto (pc := 142) (tgt := 146) (dec_at lsk_65 (k := 41) rfl) rfl ?_
                  refine u_sto (lv' := [.ref 63, iV l1, iV 1]) (pc := 146) (dec_at lsk_65 (k := 43) rfl) rfl ?_
                  refine u_goto (pc := 147) (tgt := 169) (dec_at lsk_65 (k := 44) rfl) rfl ?_
                  exact h
                · have h := ifF e31 h
                  refine u_ld (v := iV 0) (pc := 145) (dec_at lsk_65 (k := 42) rfl) rfl ?_
                  refine u_sto (lv' := [.ref 63, iV l1, iV 0]) (pc := 146) (dec_at lsk_65 (k := 43) rfl) rfl ?_
                  refine u_goto (pc := 147) (tgt := 169) (dec_at lsk_65 (k := 44) rfl) rfl ?_
                  exact h
              · have h := ifF e29 h
                refine u_lsw (pc := 1) (tgt := 150) (o := 149) (dec_at lsk_65 (k := 1) rfl) rfl rfl g1 (by rw [lo_ne e2, lo_ne e5, lo_ne e12, lo_ne e23, lo_ne e25, lo_ne e27, lo_ne e29]; rfl) rfl ?_
                refine u_ld (v := iV l1) (pc := 150) (dec_at lsk_65 (k := 45) rfl) rfl ?_
                refine u_c (x := 33) (pc := 151) (dec_at lsk_65 (k := 46) rfl) rfl (by decide) ?_
                refine u_icT (pc := 153) (tgt := 163) (dec_at lsk_65 (k := 47) rfl) rfl (ci_eq g1 (by decide)) (fun e32 => ?_) (fun e32 => ?_)
                · have h := ifT e32 h
                  refine u_ld (v := iV 1) (pc := 163) (dec_at lsk_65 (k := 51) rfl) rfl ?_
                  refine u_goto (pc := 164) (tgt := 168) (dec_at lsk_65 (k := 52) rfl) rfl ?_
                  refine u_sto (lv' := [.ref 63, iV l1, iV 1]) (pc := 168) (dec_at lsk_65 (k := 54) rfl) rfl ?_
                  exact h
                · have h := ifF e32 h
                  refine u_ld (v := iV l1) (pc := 156) (dec_at lsk_65 (k := 48) rfl) rfl ?_
                  refine u_csI (As := [iV l1]) (st2 := []) (pc := 157) (dec_at lsk_65 (k := 49) rfl) m_6_81 (Or.inl rfl) rfl (Nat.le_of_ble_eq_true rfl) ?_ (fun _ _ h_ => h_)
                  refine u_of me_66 (Nat.le_of_ble_eq_true rfl) ?_
                  refine u_ld (v := iV l1) (pc := 0) (dec_at lsk_66 (k := 0) rfl) rfl ?_
                  refine u_c (x := 46) (pc := 1) (dec_at lsk_66 (k := 1) rfl) rfl (by decide) ?_
                  refine u_icT (pc := 3) (tgt := 19) (dec_at lsk_66 (k := 2) rfl) rfl (ci_eq g1 (by decide)) (fun e33 => ?_) (fun e33 => ?_)
                  · have h := ifT e33 h
                    refine u_ld (v := iV 1) (pc := 19) (dec_at lsk_66 (k := 9) rfl) rfl ?_
                    refine u_goto (pc := 20) (tgt := 24) (dec_at lsk_66 (k := 10) rfl) rfl ?_
                    refine u_rZ (pc := 24) (dec_at lsk_66 (k := 12) rfl) rfl (by decide) ?_
                    refine u_ifT (pc := 160) (tgt := 167) (dec_at lsk_65 (k := 50) rfl) rfl (c0_eq (by decide)) (fun e => absurd e (by decide)) (fun _ => ?_)
                    refine u_ld (v := iV 1) (pc := 163) (dec_at lsk_65 (k := 51) rfl) rfl ?_
                    refine u_goto (pc := 164) (tgt := 168) (dec_at lsk_65 (k := 52) rfl) rfl ?_
                    refine u_sto (lv' := [.ref 63, iV l1, iV 1]) (pc := 168) (dec_at lsk_65 (k := 54) rfl) rfl ?_
                    exact h
                  · have h := ifF e33 h
                    refine u_ld (v := iV l1) (pc := 6) (dec_at lsk_66 (k := 3) rfl) rfl ?_
                    refine u_c (x := 48) (pc := 7) (dec_at lsk_66 (k := 4) rfl) rfl (by decide) ?_
                    refine u_icT (pc := 9) (tgt := 19) (dec_at lsk_66 (k := 5) rfl) rfl (ci_eq g1 (by decide)) (fun e34 => ?_) (fun e34 => ?_)
                    · have h := ifT e34 h
                      refine u_ld (v := iV 1) (pc := 19) (dec_at lsk_66 (k := 9) rfl) rfl ?_
                      refine u_goto (pc := 20) (tgt := 24) (dec_at lsk_66 (k := 10) rfl) rfl ?_
                      refine u_rZ (pc := 24) (dec_at lsk_66 (k := 12) rfl) rfl (by decide) ?_
                      refine u_ifT (pc := 160) (tgt := 167) (dec_at lsk_65 (k := 50) rfl) rfl (c0_eq (by decide)) (fun e => absurd e (by decide)) (fun _ => ?_)
                      refine u_ld (v := iV 1) (pc := 163) (dec_at lsk_65 (k := 51) rfl) rfl ?_
                      refine u_goto (pc := 164) (tgt := 168) (dec_at lsk_65 (k := 52) rfl) rfl ?_
                      refine u_sto (lv' := [.ref 63, iV l1, iV 1]) (pc := 168) (dec_at lsk_65 (k := 54) rfl) rfl ?_
                      exact h
                    · have h := ifF e34 h
                      refine u_ld (v := iV l1) (pc := 12) (dec_at lsk_66 (k := 6) rfl) rfl ?_
                      refine u_csI (As := [iV l1]) (st2 := []) (pc := 13) (dec_at lsk_66 (k := 7) rfl) m_6_84 (Or.inr rfl) rfl (Nat.le_of_ble_eq_true rfl) ?_ (fun _ _ h_ => h_)
                      refine u_of me_21 (Nat.le_of_ble_eq_true rfl) ?_
                      refine u_ld (v := iV l1) (pc := 0) (dec_at lsk_21 (k := 0) rfl) rfl ?_
                      refine u_c (x := 97) (pc := 1) (dec_at lsk_21 (k := 1) rfl) rfl (by decide) ?_
                      refine u_icT (pc := 3) (tgt := 16) (dec_at lsk_21 (k := 2) rfl) rfl (ci_lt g1 (by decide)) (fun e35 => ?_) (fun e35 => ?_)
                      · have h := ifT e35 h
                        refine u_ld (v := iV 0) (pc := 16) (dec_at lsk_21 (k := 8) rfl) rfl ?_
                        refine u_rZ (pc := 17) (dec_at lsk_21 (k := 9) rfl) rfl (by decide) ?_
                        refine u_ifT (pc := 16) (tgt := 23) (dec_at lsk_66 (k := 8) rfl) rfl (c0_eq (by decide)) (fun _ => ?_) (fun e => absurd e (by decide))
                        refine u_ld (v := iV 0) (pc := 23) (dec_at lsk_66 (k := 11) rfl) rfl ?_
                        refine u_rZ (pc := 24) (dec_at lsk_66 (k := 12) rfl) rfl (by decide) ?_
                        refine u_ifT (pc := 160) (tgt := 167) (dec_at lsk_65 (k := 50) rfl) rfl (c0_eq (by decide)) (fun _ => ?_) (fun e => absurd e (by decide))
                        refine u_ld (v := iV 0) (pc := 167) (dec_at lsk_65 (k := 53) rfl) rfl ?_
                        refine u_sto (lv' := [.ref 63, iV l1, iV 0]) (pc := 168) (dec_at lsk_65 (k := 54) rfl) rfl ?_
                        exact h
                      · have h := ifF e35 h
                        refine u_ld (v := iV l1) (pc := 6) (dec_at lsk_21 (k := 3) rfl) rfl ?_
                        refine u_c (x := 107) (pc := 7) (dec_at lsk_21 (k := 4) rfl) rfl (by decide) ?_
                        refine u_icF (pc := 9) (tgt := 16) (dec_at lsk_21 (k := 5) rfl) rfl (ci_ge g1 (by decide)) (fun e36 => ?_) (fun e36 => ?_)
                        · have h := ifT e36 h
                          refine u_ld (v := iV 1) (pc := 12) (dec_at lsk_21 (k := 6) rfl) rfl ?_
                          refine u_goto (pc := 13) (tgt := 17) (dec_at lsk_21 (k := 7) rfl) rfl ?_
                          refine u_rZ (pc := 17) (dec_at lsk_21 (k := 9) rfl) rfl (by decide) ?_
                          refine u_ifT (pc := 16) (tgt := 23) (dec_at lsk_66 (k := 8) rfl) rfl (c0_eq (by decide)) (fun e => absurd e (by decide)) (fun _ => ?_)
                          refine u_ld (v := iV 1) (pc := 19) (dec_at lsk_66 (k := 9) rfl) rfl ?_
                          refine u_goto (pc := 20) (tgt := 24) (dec_at lsk_66 (k := 10) rfl) rfl ?_
                          refine u_rZ (pc := 24) (dec_at lsk_66 (k := 12) rfl) rfl (by decide) ?_
                          refine u_ifT (pc := 160) (tgt := 167) (dec_at lsk_65 (k := 50) rfl) rfl (c0_eq (by decide)) (fun e => absurd e (by decide)) (fun _ => ?_)
                          refine u_ld (v := iV 1) (pc := 163) (dec_at lsk_65 (k := 51) rfl) rfl ?_
                          refine u_goto (pc := 164) (tgt := 168) (dec_at lsk_65 (k := 52) rfl) rfl ?_
                          refine u_sto (lv' := [.ref 63, iV l1, iV 1]) (pc := 168) (dec_at lsk_65 (k := 54) rfl) rfl ?_
                          exact h
                        · have h := ifF e36 h
                          refine u_ld (v := iV 0) (pc := 16) (dec_at lsk_21 (k := 8) rfl) rfl ?_
                          refine u_rZ (pc := 17) (dec_at lsk_21 (k := 9) rfl) rfl (by decide) ?_
                          refine u_ifT (pc := 16) (tgt := 23) (dec_at lsk_66 (k := 8) rfl) rfl (c0_eq (by decide)) (fun _ => ?_) (fun e => absurd e (by decide))
                          refine u_ld (v := iV 0) (pc := 23) (dec_at lsk_66 (k := 11) rfl) rfl ?_
                          refine u_rZ (pc := 24) (dec_at lsk_66 (k := 12) rfl) rfl (by decide) ?_
                          refine u_ifT (pc := 160) (tgt := 167) (dec_at lsk_65 (k := 50) rfl) rfl (c0_eq (by decide)) (fun _ => ?_) (fun e => absurd e (by decide))
                          refine u_ld (v := iV 0) (pc := 167) (dec_at lsk_65 (k := 53) rfl) rfl ?_
                          refine u_sto (lv' := [.ref 63, iV l1, iV 0]) (pc := 168) (dec_at lsk_65 (k := 54) rfl) rfl ?_
                          exact h
theorem k_65_169 {d : Nat} {Q : Int → uS → Prop} {u : uS} {l1 l2 : Int} (h : (rI l1) ∧ (if l1 = 41 then (∀ u3 : uS, u3 = wr u 63 1 1 → (if l1 = 33 then (∀ u6 : uS, u6 = wr u3 63 2 1 → ((l2 = 0 ∨ l2 = 1) ∧ (Q l2 u6))) else (∀ u9 : uS, u9 = wr u3 63 2 0 → ((l2 = 0 ∨ l2 = 1) ∧ (Q l2 u9))))) else (if l1 = 46 then (∀ u13 : uS, u13 = wr u 63 1 1 → (if l1 = 33 then (∀ u16 : uS, u16 = wr u13 63 2 1 → ((l2 = 0 ∨ l2 = 1) ∧ (Q l2 u16))) else (∀ u19 : uS, u19 = wr u13 63 2 0 → ((l2 = 0 ∨ l2 = 1) ∧ (Q l2 u19))))) else (if l1 = 48 then (∀ u23 : uS, u23 = wr u 63 1 1 → (if l1 = 33 then (∀ u26 : uS, u26 = wr u23 63 2 1 → ((l2 = 0 ∨ l2 = 1) ∧ (Q l2 u26))) else (∀ u29 : uS, u29 = wr u23 63 2 0 → ((l2 = 0 ∨ l2 = 1) ∧ (Q l2 u29))))) else (if l1 < 97 then (∀ u33 : uS, u33 = wr u 63 1 0 → (if l1 = 33 then (∀ u36 : uS, u36 = wr u33 63 2 1 → ((l2 = 0 ∨ l2 = 1) ∧ (Q l2 u36))) else (∀ u39 : uS, u39 = wr u33 63 2 0 → ((l2 = 0 ∨ l2 = 1) ∧ (Q l2 u39))))) else (if l1 < 107 then (∀ u43 : uS, u43 = wr u 63 1 1 → (if l1 = 33 then (∀ u46 : uS, u46 = wr u43 63 2 1 → ((l2 = 0 ∨ l2 = 1) ∧ (Q l2 u46))) else (∀ u49 : uS, u49 = wr u43 63 2 0 → ((l2 = 0 ∨ l2 = 1) ∧ (Q l2 u49))))) else (∀ u52 : uS, u52 = wr u 63 1 0 → (if l1 = 33 then (∀ u55 : uS, u55 = wr u52 63 2 1 → ((l2 = 0 ∨ l2 = 1) ∧ (Q l2 u55))) else (∀ u58 : uS, u58 = wr u52 63 2 0 → ((l2 = 0 ∨ l2 = 1) ∧ (Q l2 u58))))))))))) : K_65 (d + 2) 169 [.ref 63, iV l1, iV l2] [] u Q := by
  unfold K_65
  refine u_ld (v := .ref 63) (pc := 169) (dec_at lsk_65 (k := 55) rfl) rfl ?_
  refine u_ld (v := iV l1) (pc := 170) (dec_at lsk_65 (k := 56) rfl) rfl ?_
  refine u_c (x := 41) (pc := 171) (dec_at lsk_65 (k := 57) rfl) rfl (by decide) ?_
  have g1 := h.1
  have h := h.2
  refine u_icT (pc := 173) (tgt := 183) (dec_at lsk_65 (k := 58) rfl) rfl (ci_eq g1 (by decide)) (fun e2 => ?_) (fun e2 => ?_)
  · have h := ifT e2 h
    refine u_ld (v := iV 1) (pc := 183) (dec_at lsk_65 (k := 62) rfl) rfl ?_
    refine u_goto (pc := 184) (tgt := 188) (dec_at lsk_65 (k := 63) rfl) rfl ?_
    refine u_pZ (z := 1) (pc := 188) (dec_at lsk_65 (k := 65) rfl) f_6_58 sx_63 rfl rfl rfl rfl (by decide) (fun u3 e4 => ?_)
    have h := h u3 e4
    refine u_ld (v := .ref 63) (pc := 191) (dec_at lsk_65 (k := 66) rfl) rfl ?_
    refine u_ld (v := iV l1) (pc := 192) (dec_at lsk_65 (k := 67) rfl) rfl ?_
    refine u_c (x := 33) (pc := 193) (dec_at lsk_65 (k := 68) rfl) rfl (by decide) ?_
    refine u_icF (pc := 195) (tgt := 202) (dec_at lsk_65 (k := 69) rfl) rfl (ci_ne g1 (by decide)) (fun e5 => ?_) (fun e5 => ?_)
    · have h := ifT e5 h
      refine u_ld (v := iV 1) (pc := 198) (dec_at lsk_65 (k := 70) rfl) rfl ?_
      refine u_goto (pc := 199) (tgt := 203) (dec_at lsk_65 (k := 71) rfl) rfl ?_
      refine u_pZ (z := 2) (pc := 203) (dec_at lsk_65 (k := 73) rfl) f_6_62 sx_63 rfl rfl rfl rfl (by decide) (fun u6 e7 => ?_)
      have h := h u6 e7
      refine u_ld (v := iV l2) (pc := 206) (dec_at lsk_65 (k := 74) rfl) rfl ?_
      have g8 := h.1
      have h := h.2
      exact u_rZ (pc := 207) (dec_at lsk_65 (k := 75) rfl) rfl g8 h
    · have h := ifF e5 h
      refine u_ld (v := iV 0) (pc := 202) (dec_at lsk_65 (k := 72) rfl) rfl ?_
      refine u_pZ (z := 2) (pc := 203) (dec_at lsk_65 (k := 73) rfl) f_6_62 sx_63 rfl rfl rfl rfl (by decide) (fun u9 e10 => ?_)
      have h := h u9 e10
      refine u_ld (v := iV l2) (pc := 206) (dec_at lsk_65 (k := 74) rfl) rfl ?_
      have g11 := h.1
      have h := h.2
      exact u_rZ (pc := 207) (dec_at lsk_65 (k := 75) rfl) rfl g11 h
  · have h := ifF e2 h
    refine u_ld (v := iV l1) (pc := 176) (dec_at lsk_65 (k := 59) rfl) rfl ?_
    refine u_csI (As := [iV l1]) (st2 := [.ref 63]) (pc := 177) (dec_at lsk_65 (k := 60) rfl) m_6_81 (Or.inl rfl) rfl (Nat.le_of_ble_eq_true rfl) ?_ (fun _ _ h_ => h_)
    refine u_of me_66 (Nat.le_of_ble_eq_true rfl) ?_
    refine u_ld (v := iV l1) (pc := 0) (dec_at lsk_66 (k := 0) rfl) rfl ?_
    refine u_c (x := 46) (pc := 1) (dec_at lsk_66 (k := 1) rfl) rfl (by decide) ?_
    refine u_icT (pc := 3) (tgt := 19) (dec_at lsk_66 (k := 2) rfl) rfl (ci_eq g1 (by decide)) (fun e12 => ?_) (fun e12 => ?_)
    · have h := ifT e12 h
      refine u_ld (v := iV 1) (pc := 19) (dec_at lsk_66 (k := 9) rfl) rfl ?_
      refine u_goto (pc := 20) (tgt := 24) (dec_at lsk_66 (k := 10) rfl) rfl ?_
      refine u_rZ (pc := 24) (dec_at lsk_66 (k := 12) rfl) rfl (by decide) ?_
      refine u_ifT (pc := 180) (tgt := 187) (dec_at lsk_65 (k := 61) rfl) rfl (c0_eq (by decide)) (fun e => absurd e (by decide)) (fun _ => ?_)
      refine u_ld (v := iV 1) (pc := 183) (dec_at lsk_65 (k := 62) rfl) rfl ?_
      refine u_goto (pc := 184) (tgt := 188) (dec_at lsk_65 (k := 63) rfl) rfl ?_
      refine u_pZ (z := 1) (pc := 188) (dec_at lsk_65 (k := 65) rfl) f_6_58 sx_63 rfl rfl rfl rfl (by decide) (fun u13 e14 => ?_)
      have h := h u13 e14
      refine u_ld (v := .ref 63) (pc := 191) (dec_at lsk_65 (k := 66) rfl) rfl ?_
      refine u_ld (v := iV l1) (pc := 192) (dec_at lsk_65 (k := 67) rfl) rfl ?_
      refine u_c (x := 33) (pc := 193) (dec_at lsk_65 (k := 68) rfl) rfl (by decide) ?_
      refine u_icF (pc := 195) (tgt := 202) (dec_at lsk_65 (k := 69) rfl) rfl (ci_ne g1 (by decide)) (fun e15 => ?_) (fun e15 => ?_)
      · have h := ifT e15 h
        refine u_ld (v := iV 1) (pc := 198) (dec_at lsk_65 (k := 70) rfl) rfl ?_
        refine u_goto (pc := 199) (tgt := 203) (dec_at lsk_65 (k := 71) rfl) rfl ?_
        refine u_pZ (z := 2) (pc := 203) (dec_at lsk_65 (k := 73) rfl) f_6_62 sx_63 rfl rfl rfl rfl (by decide) (fun u16 e17 => ?_)
        have h := h u16 e17
        refine u_ld (v := iV l2) (pc := 206) (dec_at lsk_65 (k := 74) rfl) rfl ?_
        have g18 := h.1
        have h := h.2
        exact u_rZ (pc := 207) (dec_at lsk_65 (k := 75) rfl) rfl g18 h
      · have h := ifF e15 h
        refine u_ld (v := iV 0) (pc := 202) (dec_at lsk_65 (k := 72) rfl) rfl ?_
        refine u_pZ (z := 2) (pc := 203) (dec_at lsk_65 (k := 73) rfl) f_6_62 sx_63 rfl rfl rfl rfl (by decide) (fun u19 e20 => ?_)
        have h := h u19 e20
        refine u_ld (v := iV l2) (pc := 206) (dec_at lsk_65 (k := 74) rfl) rfl ?_
        have g21 := h.1
        have h := h.2
        exact u_rZ (pc := 207) (dec_at lsk_65 (k := 75) rfl) rfl g21 h
    · have h := ifF e12 h
      refine u_ld (v := iV l1) (pc := 6) (dec_at lsk_66 (k := 3) rfl) rfl ?_
      refine u_c (x := 48) (pc := 7) (dec_at lsk_66 (k := 4) rfl) rfl (by decide) ?_
      refine u_icT (pc := 9) (tgt := 19) (dec_at lsk_66 (k := 5) rfl) rfl (ci_eq g1 (by decide)) (fun e22 => ?_) (fun e22 => ?_)
      · have h := ifT e22 h
        refine u_ld (v := iV 1) (pc := 19) (dec_at lsk_66 (k := 9) rfl) rfl ?_
        refine u_goto (pc := 20) (tgt := 24) (dec_at lsk_66 (k := 10) rfl) rfl ?_
        refine u_rZ (pc := 24) (dec_at lsk_66 (k := 12) rfl) rfl (by decide) ?_
        refine u_ifT (pc := 180) (tgt := 187) (dec_at lsk_65 (k := 61) rfl) rfl (c0_eq (by decide)) (fun e => absurd e (by decide)) (fun _ => ?_)
        refine u_ld (v := iV 1) (pc := 183) (dec_at lsk_65 (k := 62) rfl) rfl ?_
        refine u_goto (pc := 184) (tgt := 188) (dec_at lsk_65 (k := 63) rfl) rfl ?_
        refine u_pZ (z := 1) (pc := 188) (dec_at lsk_65 (k := 65) rfl) f_6_58 sx_63 rfl rfl rfl rfl (by decide) (fun u23 e24 => ?_)
        have h := h u23 e24
        refine u_ld (v := .ref 63) (pc := 191) (dec_at lsk_65 (k := 66) rfl) rfl ?_
        refine u_ld (v := iV l1) (pc := 192) (dec_at lsk_65 (k := 67) rfl) rfl ?_
        refine u_c (x := 33) (pc := 193) (dec_at lsk_65 (k := 68) rfl) rfl (by decide) ?_
        refine u_icF (pc := 195) (tgt := 202) (dec_at lsk_65 (k := 69) rfl) rfl (ci_ne g1 (by decide)) (fun e25 => ?_) (fun e25 => ?_)
        · have h := ifT e25 h
          refine u_ld (v := iV 1) (pc := 198) (dec_at lsk_65 (k := 70) rfl) rfl ?_
          refine u_goto (pc := 199) (tgt := 203) (dec_at lsk_65 (k := 71) rfl) rfl ?_
          refine u_pZ (z := 2) (pc := 203) (dec_at lsk_65 (k := 73) rfl) f_6_62 sx_63 rfl rfl rfl rfl (by decide) (fun u26 e27 => ?_)
          have h := h u26 e27
          refine u_ld (v := iV l2) (pc := 206) (dec_at lsk_65 (k := 74) rfl) rfl ?_
          have g28 := h.1
          have h := h.2
          exact u_rZ (pc := 207) (dec_at lsk_65 (k := 75) rfl) rfl g28 h
        · have h := ifF e25 h
          refine u_ld (v := iV 0) (pc := 202) (dec_at lsk_65 (k := 72) rfl) rfl ?_
          refine u_pZ (z := 2) (pc := 203) (dec_at lsk_65 (k := 73) rfl) f_6_62 sx_63 rfl rfl rfl rfl (by decide) (fun u29 e30 => ?_)
          have h := h u29 e30
          refine u_ld (v := iV l2) (pc := 206) (dec_at lsk_65 (k := 74) rfl) rfl ?_
          have g31 := h.1
          have h := h.2
          exact u_rZ (pc := 207) (dec_at lsk_65 (k := 75) rfl) rfl g31 h
      · have h := ifF e22 h
        refine u_ld (v := iV l1) (pc := 12) (dec_at lsk_66 (k := 6) rfl) rfl ?_
        refine u_csI (As := [iV l1]) (st2 := []) (pc := 13) (dec_at lsk_66 (k := 7) rfl) m_6_84 (Or.inr rfl) rfl (Nat.le_of_ble_eq_true rfl) ?_ (fun _ _ h_ => h_)
        refine u_of me_21 (Nat.le_of_ble_eq_true rfl) ?_
        refine u_ld (v := iV l1) (pc := 0) (dec_at lsk_21 (k := 0) rfl) rfl ?_
        refine u_c (x := 97) (pc := 1) (dec_at lsk_21 (k := 1) rfl) rfl (by decide) ?_
        refine u_icT (pc := 3) (tgt := 16) (dec_at lsk_21 (k := 2) rfl) rfl (ci_lt g1 (by decide)) (fun e32 => ?_) (fun e32 => ?_)
        · have h := ifT e32 h
          refine u_ld (v := iV 0) (pc := 16) (dec_at lsk_21 (k := 8) rfl) rfl ?_
          refine u_rZ (pc := 17) (dec_at lsk_21 (k := 9) rfl) rfl (by decide) ?_
          refine u_ifT (pc := 16) (tgt := 23) (dec_at lsk_66 (k := 8) rfl) rfl (c0_eq (by decide)) (fun _ => ?_) (fun e => absurd e (by decide))
          refine u_ld (v := iV 0) (pc := 23) (dec_at lsk_66 (k := 11) rfl) rfl ?_
          refine u_rZ (pc := 24) (dec_at lsk_66 (k := 12) rfl) rfl (by decide) ?_
          refine u_ifT (pc := 180) (tgt := 187) (dec_at lsk_65 (k := 61) rfl) rfl (c0_eq (by decide)) (fun _ => ?_) (fun e => absurd e (by decide))
          refine u_ld (v := iV 0) (pc := 187) (dec_at lsk_65 (k := 64) rfl) rfl ?_
          refine u_pZ (z := 1) (pc := 188) (dec_at lsk_65 (k := 65) rfl) f_6_58 sx_63 rfl rfl rfl rfl (by decide) (fun u33 e34 => ?_)
          have h := h u33 e34
          refine u_ld (v := .ref 63) (pc := 191) (dec_at lsk_65 (k := 66) rfl) rfl ?_
          refine u_ld (v := iV l1) (pc := 192) (dec_at lsk_65 (k := 67) rfl) rfl ?_
          refine u_c (x := 33) (pc := 193) (dec_at lsk_65 (k := 68) rfl) rfl (by decide) ?_
          refine u_icF (pc := 195) (tgt := 202) (dec_at lsk_65 (k := 69) rfl) rfl (ci_ne g1 (by decide)) (fun e35 => ?_) (fun e35 => ?_)
          · have h := ifT e35 h
            refine u_ld (v := iV 1) (pc := 198) (dec_at lsk_65 (k := 70) rfl) rfl ?_
            refine u_goto (pc := 199) (tgt := 203) (dec_at lsk_65 (k := 71) rfl) rfl ?_
            refine u_pZ (z := 2) (pc := 203) (dec_at lsk_65 (k := 73) rfl) f_6_62 sx_63 rfl rfl rfl rfl (by decide) (fun u36 e37 => ?_)
            have h := h u36 e37
            refine u_ld (v := iV l2) (pc := 206) (dec_at lsk_65 (k := 74) rfl) rfl ?_
            have g38 := h.1
            have h := h.2
            exact u_rZ (pc := 207) (dec_at lsk_65 (k := 75) rfl) rfl g38 h
          · have h := ifF e35 h
            refine u_ld (v := iV 0) (pc := 202) (dec_at lsk_65 (k := 72) rfl) rfl ?_
            refine u_pZ (z := 2) (pc := 203) (dec_at lsk_65 (k := 73) rfl) f_6_62 sx_63 rfl rfl rfl rfl (by decide) (fun u39 e40 => ?_)
            have h := h u39 e40
            refine u_ld (v := iV l2) (pc := 206) (dec_at lsk_65 (k := 74) rfl) rfl ?_
            have g41 := h.1
            have h := h.2
            exact u_rZ (pc := 207) (dec_at lsk_65 (k := 75) rfl) rfl g41 h
        · have h := ifF e32 h
          refine u_ld (v := iV l1) (pc := 6) (dec_at lsk_21 (k := 3) rfl) rfl ?_
          refine u_c (x := 107) (pc := 7) (dec_at lsk_21 (k := 4) rfl) rfl (by decide) ?_
          refine u_icF (pc := 9) (tgt := 16) (dec_at lsk_21 (k := 5) rfl) rfl (ci_ge g1 (by decide)) (fun e42 => ?_) (fun e42 => ?_)
          · have h := ifT e42 h
            refine u_ld (v := iV 1) (pc := 12) (dec_at lsk_21 (k := 6) rfl) rfl ?_
            refine u_goto (pc := 13) (tgt := 17) (dec_at lsk_21 (k := 7) rfl) rfl ?_
            refine u_rZ (pc := 17) (dec_at lsk_21 (k := 9) rfl) rfl (by decide) ?_
            refine u_ifT (pc := 16) (tgt := 23) (dec_at lsk_66 (k := 8) rfl) rfl (c0_eq (by decide)) (fun e => absurd e (by decide)) (fun _ => ?_)
            refine u_ld (v := iV 1) (pc := 19) (dec_at lsk_66 (k := 9) rfl) rfl ?_
            refine u_goto (pc := 20) (tgt := 24) (dec_at lsk_66 (k := 10) rfl) rfl ?_
            refine u_rZ (pc := 24) (dec_at lsk_66 (k := 12) rfl) rfl (by decide) ?_
            refine u_ifT (pc := 180) (tgt := 187) (dec_at lsk_65 (k := 61) rfl) rfl (c0_eq (by decide)) (fun e => absurd e (by decide)) (fun _ => ?_)
            refine u_ld (v := iV 1) (pc := 183) (dec_at lsk_65 (k := 62) rfl) rfl ?_
            refine u_goto (pc := 184) (tgt := 188) (dec_at lsk_65 (k := 63) rfl) rfl ?_
            refine u_pZ (z := 1) (pc := 188) (dec_at lsk_65 (k := 65) rfl) f_6_58 sx_63 rfl rfl rfl rfl (by decide) (fun u43 e44 => ?_)
            have h := h u43 e44
            refine u_ld (v := .ref 63) (pc := 191) (dec_at lsk_65 (k := 66) rfl) rfl ?_
            refine u_ld (v := iV l1) (pc := 192) (dec_at lsk_65 (k := 67) rfl) rfl ?_
            refine u_c (x := 33) (pc := 193) (dec_at lsk_65 (k := 68) rfl) rfl (by decide) ?_
            refine u_icF (pc := 195) (tgt := 202) (dec_at lsk_65 (k := 69) rfl) rfl (ci_ne g1 (by decide)) (fun e45 => ?_) (fun e45 => ?_)
            · have h := ifT e45 h
              refine u_ld (v := iV 1) (pc := 198) (dec_at lsk_65 (k := 70) rfl) rfl ?_
              refine u_goto (pc := 199) (tgt := 203) (dec_at lsk_65 (k := 71) rfl) rfl ?_
              refine u_pZ (z := 2) (pc := 203) (dec_at lsk_65 (k := 73) rfl) f_6_62 sx_63 rfl rfl rfl rfl (by decide) (fun u46 e47 => ?_)
              have h := h u46 e47
              refine u_ld (v := iV l2) (pc := 206) (dec_at lsk_65 (k := 74) rfl) rfl ?_
              have g48 := h.1
              have h := h.2
              exact u_rZ (pc := 207) (dec_at lsk_65 (k := 75) rfl) rfl g48 h
            · have h := ifF e45 h
              refine u_ld (v := iV 0) (pc := 202) (dec_at lsk_65 (k := 72) rfl) rfl ?_
              refine u_pZ (z := 2) (pc := 203) (dec_at lsk_65 (k := 73) rfl) f_6_62 sx_63 rfl rfl rfl rfl (by decide) (fun u49 e50 => ?_)
              have h := h u49 e50
              refine u_ld (v := iV l2) (pc := 206) (dec_at lsk_65 (k := 74) rfl) rfl ?_
              have g51 := h.1
              have h := h.2
              exact u_rZ (pc := 207) (dec_at lsk_65 (k := 75) rfl) rfl g51 h
          · have h := ifF e42 h
            refine u_ld (v := iV 0) (pc := 16) (dec_at lsk_21 (k := 8) rfl) rfl ?_
            refine u_rZ (pc := 17) (dec_at lsk_21 (k := 9) rfl) rfl (by decide) ?_
            refine u_ifT (pc := 16) (tgt := 23) (dec_at lsk_66 (k := 8) rfl) rfl (c0_eq (by decide)) (fun _ => ?_) (fun e => absurd e (by decide))
            refine u_ld (v := iV 0) (pc := 23) (dec_at lsk_66 (k := 11) rfl) rfl ?_
            refine u_rZ (pc := 24) (dec_at lsk_66 (k := 12) rfl) rfl (by decide) ?_
            refine u_ifT (pc := 180) (tgt := 187) (dec_at lsk_65 (k := 61) rfl) rfl (c0_eq (by decide)) (fun _ => ?_) (fun e => absurd e (by decide))
            refine u_ld (v := iV 0) (pc := 187) (dec_at lsk_65 (k := 64) rfl) rfl ?_
            refine u_pZ (z := 1) (pc := 188) (dec_at lsk_65 (k := 65) rfl) f_6_58 sx_63 rfl rfl rfl rfl (by decide) (fun u52 e53 => ?_)
            have h := h u52 e53
            refine u_ld (v := .ref 63) (pc := 191) (dec_at lsk_65 (k := 66) rfl) rfl ?_
            refine u_ld (v := iV l1) (pc := 192) (dec_at lsk_65 (k := 67) rfl) rfl ?_
            refine u_c (x := 33) (pc := 193) (dec_at lsk_65 (k := 68) rfl) rfl (by decide) ?_
            refine u_icF (pc := 195) (tgt := 202) (dec_at lsk_65 (k := 69) rfl) rfl (ci_ne g1 (by decide)) (fun e54 => ?_) (fun e54 => ?_)
            · have h := ifT e54 h
              refine u_ld (v := iV 1) (pc := 198) (dec_at lsk_65 (k := 70) rfl) rfl ?_
              refine u_goto (pc := 199) (tgt := 203) (dec_at lsk_65 (k := 71) rfl) rfl ?_
              refine u_pZ (z := 2) (pc := 203) (dec_at lsk_65 (k := 73) rfl) f_6_62 sx_63 rfl rfl rfl rfl (by decide) (fun u55 e56 => ?_)
              have h := h u55 e56
              refine u_ld (v := iV l2) (pc := 206) (dec_at lsk_65 (k := 74) rfl) rfl ?_
              have g57 := h.1
              have h := h.2
              exact u_rZ (pc := 207) (dec_at lsk_65 (k := 75) rfl) rfl g57 h
            · have h := ifF e54 h
              refine u_ld (v := iV 0) (pc := 202) (dec_at lsk_65 (k := 72) rfl) rfl ?_
              refine u_pZ (z := 2) (pc := 203) (dec_at lsk_65 (k := 73) rfl) f_6_62 sx_63 rfl rfl rfl rfl (by decide) (fun u58 e59 => ?_)
              have h := h u58 e59
              refine u_ld (v := iV l2) (pc := 206) (dec_at lsk_65 (k := 74) rfl) rfl ?_
              have g60 := h.1
              have h := h.2
              exact u_rZ (pc := 207) (dec_at lsk_65 (k := 75) rfl) rfl g60 h
/-- method 67 -/
def K_67 (d pc : Nat) (lv : ev_L) (st : List Value) (u : uS) (Q : Int → uS → Prop) : Prop := okU d 6 5 false (some .boolean) prog_2_method_5_code (qI Q) pc lv st u
theorem e_67 {d : Nat} {Q : Int → uS → Prop} {u : uS} (h : ∀ u1 : uS, u1 = wr u 63 0 0 → ((0 ≤ u1.1 63 0) ∧ ((u1.1 63 0 < 16) ∧ (∀ u5 : uS, u5 = wr u1 85 (u1.1 63 0) 0 → ((0 ≤ u5.1 63 0) ∧ ((u5.1 63 0 < 16) ∧ (∀ u9 : uS, u9 = wr u5 86 (u5.1 63 0) 0 → ((0 ≤ u9.1 63 0) ∧ ((u9.1 63 0 < 16) ∧ (∀ u13 : uS, u13 = wr u9 87 (u9.1 63 0) 0 → ((0 ≤ u13.1 63 0) ∧ ((u13.1 63 0 < 16) ∧ (∀ u17 : uS, u17 = wr u13 88 (u13.1 63 0) 0 → (∀ u19 : uS, u19 = wr u17 63 13 0 → (K_67 (d + 2) 13 [.ref 63, .ref 1, iV 1, iV 0, .retAddr 0] [] u19 Q))))))))))))))) : cI (d + 3) 67 [.ref 63, .ref 1] u Q := by
  refine u_of me_67 (Nat.le_of_ble_eq_true rfl) ?_
  refine u_ld (v := .ref 63) (pc := 0) (dec_at lsk_67 (k := 0) rfl) rfl ?_
  refine u_ld (v := iV 0) (pc := 1) (dec_at lsk_67 (k := 1) rfl) rfl ?_
  refine u_pI (z := 0) (pc := 2) (dec_at lsk_67 (k := 2) rfl) f_6_54 sx_63 rfl rfl rfl rfl (fun u1 e2 => ?_)
  have h := h u1 e2
  refine u_ld (v := .ref 63) (pc := 5) (dec_at lsk_67 (k := 3) rfl) rfl ?_
  refine u_cvV (As := []) (rb := 63) (st2 := []) (pc := 6) (dec_at lsk_67 (k := 4) rfl) m_6_87 (Or.inl rfl) rfl (Nat.le_of_ble_eq_true rfl) sx_63 me_68 rfl ?_ (fun _ h_ => h_)
  refine u_of me_68 (Nat.le_of_ble_eq_true rfl) ?_
  refine u_ld (v := .ref 63) (pc := 0) (dec_at lsk_68 (k := 0) rfl) rfl ?_
  refine u_gS (o := 22) (p := 85) (pc := 1) (dec_at lsk_68 (k := 1) rfl) f_6_38 sx_63 rfl rfl ?_
  refine u_ld (v := .ref 63) (pc := 4) (dec_at lsk_68 (k := 2) rfl) rfl ?_
  refine u_gI (z := 0) (pc := 5) (dec_at lsk_68 (k := 3) rfl) f_6_54 sx_63 rfl rfl ?_
  refine u_ld (v := iV 0) (pc := 8) (dec_at lsk_68 (k := 4) rfl) rfl ?_
  have g3 := h.1
  have h := h.2
  have g4 := h.1
  have h := h.2
  refine u_zast (pc := 9) (dec_at lsk_68 (k := 5) rfl) sx_85 g3 g4 (by decide) (fun u5 e6 => ?_)
  have h := h u5 e6
  refine u_ld (v := .ref 63) (pc := 10) (dec_at lsk_68 (k := 6) rfl) rfl ?_
  refine u_gS (o := 23) (p := 86) (pc := 11) (dec_at lsk_68 (k := 7) rfl) f_6_42 sx_63 rfl rfl ?_
  refine u_ld (v := .ref 63) (pc := 14) (dec_at lsk_68 (k := 8) rfl) rfl ?_
  refine u_gI (z := 0) (pc := 15) (dec_at lsk_68 (k := 9) rfl) f_6_54 sx_63 rfl rfl ?_
  refine u_ld (v := iV 0) (pc := 18) (dec_at lsk_68 (k := 10) rfl) rfl ?_
  have g7 := h.1
  have h := h.2
  have g8 := h.1
  have h := h.2
  refine u_zast (pc := 19) (dec_at lsk_68 (k := 11) rfl) sx_86 g7 g8 (by decide) (fun u9 e10 => ?_)
  have h := h u9 e10
  refine u_ld (v := .ref 63) (pc := 20) (dec_at lsk_68 (k := 12) rfl) rfl ?_
  refine u_gS (o := 24) (p := 87) (pc := 21) (dec_at lsk_68 (k := 13) rfl) f_6_45 sx_63 rfl rfl ?_
  refine u_ld (v := .ref 63) (pc := 24) (dec_at lsk_68 (k := 14) rfl) rfl ?_
  refine u_gI (z := 0) (pc := 25) (dec_at lsk_68 (k := 15) rfl) f_6_54 sx_63 rfl rfl ?_
  refine u_ld (v := iV 0) (pc := 28) (dec_at lsk_68 (k := 16) rfl) rfl ?_
  have g11 := h.1
  have h := h.2
  have g12 := h.1
  have h := h.2
  refine u_zast (pc := 29) (dec_at lsk_68 (k := 17) rfl) sx_87 g11 g12 (by decide) (fun u13 e14 => ?_)
  have h := h u13 e14
  refine u_ld (v := .ref 63) (pc := 30) (dec_at lsk_68 (k := 18) rfl) rfl ?_
  refine u_gS (o := 25) (p := 88) (pc := 31) (dec_at lsk_68 (k := 19) rfl) f_6_48 sx_63 rfl rfl ?_
  refine u_ld (v := .ref 63) (pc := 34) (dec_at lsk_68 (k := 20) rfl) rfl ?_
  refine u_gI (z := 0) (pc := 35) (dec_at lsk_68 (k := 21) rfl) f_6_54 sx_63 rfl rfl ?_
  refine u_ld (v := iV 0) (pc := 38) (dec_at lsk_68 (k := 22) rfl) rfl ?_
  have g15 := h.1
  have h := h.2
  have g16 := h.1
  have h := h.2
  refine u_zast (pc := 39) (dec_at lsk_68 (k := 23) rfl) sx_88 g15 g16 (by decide) (fun u17 e18 => ?_)
  have h := h u17 e18
  refine u_ld (v := .ref 63) (pc := 40) (dec_at lsk_68 (k := 24) rfl) rfl ?_
  refine u_ld (v := iV 0) (pc := 41) (dec_at lsk_68 (k := 25) rfl) rfl ?_
  refine u_pZ (z := 13) (pc := 42) (dec_at lsk_68 (k := 26) rfl) f_6_110 sx_63 rfl rfl rfl rfl (by decide) (fun u19 e20 => ?_)
  have h := h u19 e20
  refine u_rV (pc := 45) (dec_at lsk_68 (k := 27) rfl) rfl ?_
  refine u_ld (v := iV 1) (pc := 9) (dec_at lsk_67 (k := 5) rfl) rfl ?_
  refine u_sto (lv' := [.ref 63, .ref 1, iV 1, .retAddr 0, .retAddr 0]) (pc := 10) (dec_at lsk_67 (k := 6) rfl) rfl ?_
  refine u_ld (v := iV 0) (pc := 11) (dec_at lsk_67 (k := 7) rfl) rfl ?_
  refine u_sto (lv' := [.ref 63, .ref 1, iV 1, iV 0, .retAddr 0]) (pc := 12) (dec_at lsk_67 (k := 8) rfl) rfl ?_
  exact h
theorem k_67_13 {d : Nat} {Q : Int → uS → Prop} {u : uS} {l2 l3 : Int} (h : (rI l2) ∧ (if l2 = 0 then (Q 0 u) else ((rI l3) ∧ ((rI (u.1 1 5)) ∧ (if l3 < u.1 1 5 then ((0 ≤ l3) ∧ ((l3 < 300) ∧ ((rI (u.1 3 l3)) ∧ (if u.1 3 l3 = 38 then (cI (d + 2) 86 [.ref 63] u (fun r13 u12 => (rI r13) ∧ (if r13 = 0 then (K_67 (d + 2) 13 [.ref 63, .ref 1, iV 0, iV (l3 + 1), .retAddr 0] [] u12 Q) else (cI (d + 2) 89 [.ref 63] u12 (fun r17 u16 => (rI r17) ∧ (if r17 = 0 then (K_67 (d + 2) 13 [.ref 63, .ref 1, iV 0, iV (l3 + 1), .retAddr 0] [] u16 Q) else (cI (d + 2) 90 [.ref 63] u16 (fun r21 u20 => (rI r21) ∧ (if r21 = 0 then (K_67 (d + 2) 13 [.ref 63, .ref 1, iV 0, iV (l3 + 1), .retAddr 0] [] u20 Q) else (K_67 (d + 2) 13 [.ref 63, .ref 1, iV 1, iV (l3 + 1), .retAddr 0] [] u20 Q)))))))))) else (if u.1 3 l3 = 41 then (cI (d + 2) 86 [.ref 63] u (fun r26 u25 => (rI r26) ∧ (if r26 = 0 then (K_67 (d + 2) 13 [.ref 63, .ref 1, iV 0, iV (l3 + 1), .retAddr 0] [] u25 Q) else (cI (d + 2) 89 [.ref 63] u25 (fun r30 u29 => (rI r30) ∧ (if r30 = 0 then (K_67 (d + 2) 13 [.ref 63, .ref 1, iV 0, iV (l3 + 1), .retAddr 0] [] u29 Q) else (cI (d + 2) 90 [.ref 63] u29 (fun r34 u33 => (rI r34) ∧ (if r34 = 0 then (K_67 (d + 2) 13 [.ref 63, .ref 1, iV 0, iV (l3 + 1), .retAddr 0] [] u33 Q) else ((0 ≤ u33.1 63 0) ∧ ((u33.1 63 0 < 16) ∧ (∀ u39 : uS, u39 = wr u33 80 0 (u33.1 (89 + 6 * (u33.1 63 0).toNat) 0) → (∀ u41 : uS, u41 = wr u39 80 1 (u39.1 (89 + 6 * (u33.1 63 0).toNat) 1) → ((0 ≤ (u41.1 80 0) * 10) ∧ ((0 + ((u41.1 80 0) * 10) ≤ 400) ∧ (∀ u45 : uS, u45 = cpy u41 ((89 + 6 * (u33.1 63 0).toNat) + 1) 0 81 0 ((u41.1 80 0) * 10) → ((rI ((u45.1 63 0) - 1)) ∧ (∀ u48 : uS, u48 = wr u45 63 0 (max ((u45.1 63 0) - 1) 0) → (∀ u50 : uS, u50 = wr u48 63 13 1 → (K_67 (d + 2) 13 [.ref 63, .ref 1, iV 1, iV (l3 + 1), .retAddr 0] [] u50 Q)))))))))))))))))))) else (if u.1 3 l3 = 42 then (cI (d + 2) 69 [.ref 64, iV 4, .ref 80, .ref 80, .ref 80] u (fun r54 u53 => K_67 (d + 2) 13 [.ref 63, .ref 1, iV r54, iV (l3 + 1), .retAddr 0] [] u53 Q)) else (if u.1 3 l3 = 43 then (cI (d + 2) 69 [.ref 64, iV 3, .ref 80, .ref 80, .ref 80] u (fun r57 u56 => K_67 (d + 2) 13 [.ref 63, .ref 1, iV r57, iV (l3 + 1), .retAddr 0] [] u56 Q)) else (if u.1 3 l3 = 63 then (cI (d + 2) 69 [.ref 64, iV 0, .ref 80, .ref 78, .ref 80] u (fun r60 u59 => K_67 (d + 2) 13 [.ref 63, .ref 1, iV r60, iV (l3 + 1), .retAddr 0] [] u59 Q)) else (if u.1 3 l3 = 124 then (cI (d + 2) 86 [.ref 63] u (fun r63 u62 => (rI r63) ∧ (if r63 = 0 then (K_67 (d + 2) 13 [.ref 63, .ref 1, iV 0, iV (l3 + 1), .retAddr 0] [] u62 Q) else (cI (d + 2) 89 [.ref 63] u62 (fun r67 u66 => (rI r67) ∧ (if r67 = 0 then (K_67 (d + 2) 13 [.ref 63, .ref 1, iV 0, iV (l3 + 1), .retAddr 0] [] u66 Q) else (K_67 (d + 2) 13 [.ref 63, .ref 1, iV 1, iV (l3 + 1), .retAddr 0] [] u66 Q))))))) else (cI (d + 2) 86 [.ref 63] u (fun r71 u70 => (rI r71) ∧ (if r71 = 0 then (K_67 (d + 2) 13 [.ref 63, .ref 1, iV 0, iV (l3 + 1), .retAddr 0] [] u70 Q) else (cI (d + 2) 92 [.ref 63, iV (u.1 3 l3)] u70 (fun r75 u74 => (rI r75) ∧ (if r75 = 0 then (K_67 (d + 2) 13 [.ref 63, .ref 1, iV 0, iV (l3 + 1), .retAddr 0] [] u74 Q) else (K_67 (d + 2) 13 [.ref 63, .ref 1, iV 1, iV (l3 + 1), .retAddr 0] [] u74 Q)))))))))))))))) else (cI (d + 2) 86 [.ref 63] u (fun r80 u79 => (rI r80) ∧ (if r80 = 0 then (Q 0 u79) else (cI (d + 2) 89 [.ref 63] u79 (fun r84 u83 => (rI r84) ∧ (if r84 = 0 then (Q 0 u83) else (cI (d + 2) 90 [.ref 63] u83 (fun r88 u87 => (rI r88) ∧ (if r88 = 0 then (Q 0 u87) else (Q 1 u87))))))))))))))) : K_67 (d + 2) 13 [.ref 63, .ref 1, iV l2, iV l3, .retAddr 0] [] u Q := by
  unfold K_67
  refine u_ld (v := iV l2) (pc := 13) (dec_at lsk_67 (k := 9) rfl) rfl ?_
  have g1 := h.1
  have h := h.2
  refine u_ifT (pc := 14) (tgt := 282) (dec_at lsk_67 (k := 10) rfl) rfl (c0_eq g1) (fun e2 => ?_) (fun e2 => ?_)
  · have h := ifT e2 h
    refine u_ld (v := iV l2) (pc := 282) (dec_at lsk_67 (k := 112) rfl) rfl ?_
    refine u_ifT (pc := 283) (tgt := 311) (dec_at lsk_67 (k := 113) rfl) rfl (c0_eq g1) (fun _ => ?_) (fun e3 => absurd e2 e3)
    refine u_ld (v := iV 0) (pc := 311) (dec_at lsk_67 (k := 125) rfl) rfl ?_
    exact u_rZ (pc := 312) (dec_at lsk_67 (k := 126) rfl) rfl (by decide) h
  · have h := ifF e2 h
    refine u_ld (v := iV l3) (pc := 17) (dec_at lsk_67 (k := 11) rfl) rfl ?_
    refine u_ld (v := .ref 1) (pc := 18) (dec_at lsk_67 (k := 12) rfl) rfl ?_
    refine u_gI (z := 5) (pc := 19) (dec_at lsk_67 (k := 13) rfl) f_6_65 sx_1 rfl rfl ?_
    have g4 := h.1
    have h := h.2
    have g5 := h.1
    have h := h.2
    refine u_icF (pc := 22) (tgt := 282) (dec_at lsk_67 (k := 14) rfl) rfl (ci_ge g4 g5) (fun e6 => ?_) (fun e6 => ?_)
    · have h := ifT e6 h
      refine u_ld (v := .ref 1) (pc := 25) (dec_at lsk_67 (k := 15) rfl) rfl ?_
      refine u_ld (v := iV l3) (pc := 26) (dec_at lsk_67 (k := 16) rfl) rfl ?_
      refine u_cvI (As := [iV l3]) (rb := 1) (st2 := []) (pc := 27) (dec_at lsk_67 (k := 17) rfl) m_6_70 (Or.inl rfl) rfl (Nat.le_of_ble_eq_true rfl) sx_1 me_20 rfl ?_ (fun _ _ h_ => h_)
      refine u_of me_20 (Nat.le_of_ble_eq_true rfl) ?_
      refine u_ld (v := iV l3) (pc := 0) (dec_at lsk_20 (k := 0) rfl) rfl ?_
      refine u_ld (v := .ref 1) (pc := 1) (dec_at lsk_20 (k := 1) rfl) rfl ?_
      refine u_gI (z := 5) (pc := 2) (dec_at lsk_20 (k := 2) rfl) f_1_25 sx_1 rfl rfl ?_
      refine u_icF (pc := 5) (tgt := 17) (dec_at lsk_20 (k := 3) rfl) rfl (ci_ge g4 g5) (fun _ => ?_) (fun e7 => absurd e6 e7)
      refine u_ld (v := .ref 1) (pc := 8) (dec_at lsk_20 (k := 4) rfl) rfl ?_
      refine u_gS (o := 2) (p := 3) (pc := 9) (dec_at lsk_20 (k := 5) rfl) f_1_15 sx_1 rfl rfl ?_
      refine u_ld (v := iV l3) (pc := 12) (dec_at lsk_20 (k := 6) rfl) rfl ?_
      have g8 := h.1
      have h := h.2
      have g9 := h.1
      have h := h.2
      refine u_iald (pc := 13) (dec_at lsk_20 (k := 7) rfl) sx_3 g8 g9 ?_
      refine u_goto (pc := 14) (tgt := 18) (dec_at lsk_20 (k := 8) rfl) rfl ?_
      refine u_rI (pc := 18) (dec_at lsk_20 (k := 10) rfl) rfl ?_
      refine u_sto (lv' := [.ref 63, .ref 1, iV l2, iV l3, iV (u.1 3 l3)]) (pc := 30) (dec_at lsk_67 (k := 18) rfl) rfl ?_
      refine u_ld (v := iV (u.1 3 l3)) (pc := 32) (dec_at lsk_67 (k := 19) rfl) rfl ?_
      have g10 := h.1
      have h := h.2
      by_cases e11 : u.1 3 l3 = 38
      · have h := ifT e11 h
        refine u_lsw (pc := 34) (tgt := 187) (o := 153) (dec_at lsk_67 (k := 20) rfl) rfl rfl g10 (by rw [lo_eq e11]) rfl ?_
        refine u_ld (v := .ref 63) (pc := 187) (dec_at lsk_67 (k := 68) rfl) rfl ?_
        refine u_cvI (As := []) (rb := 63) (st2 := []) (pc := 188) (dec_at lsk_67 (k := 69) rfl) m_6_94 (Or.inl rfl) rfl (Nat.le_of_ble_eq_true rfl) sx_63 me_86 rfl h (fun r13 u12 h => ?_)
        have g14 := h.1
        have h := h.2
        refine u_ifT (pc := 191) (tgt := 212) (dec_at lsk_67 (k := 70) rfl) rfl (c0_eq g14) (fun e15 => ?_) (fun e15 => ?_)
        · have h := ifT e15 h
          refine u_ld (v := iV 0) (pc := 212) (dec_at lsk_67 (k := 79) rfl) rfl ?_
          refine u_sto (lv' := [.ref 63, .ref 1, iV 0, iV l3, iV (u.1 3 l3)]) (pc := 213) (dec_at lsk_67 (k := 80) rfl) rfl ?_
          refine u_goto (pc := 214) (tgt := 276) (dec_at lsk_67 (k := 81) rfl) rfl ?_
          refine u_inc (lv' := [.ref 63, .ref 1, iV 0, iV (l3 + 1), iV (u.1 3 l3)]) (pc := 276) (dec_at lsk_67 (k := 110) rfl) rfl (by decide) rfl ?_
          refine u_goto (pc := 279) (tgt := 13) (dec_at lsk_67 (k := 111) rfl) rfl ?_
          exact u_weak (sbK (sbK (sbK (sbK (sbD sb0))))) h
        · have h := ifF e15 h
          refine u_ld (v := .ref 63) (pc := 194) (dec_at lsk_67 (k := 71) rfl) rfl ?_
          refine u_cvI (As := []) (rb := 63) (st2 := []) (pc := 195) (dec_at lsk_67 (k := 72) rfl) m_6_98 (Or.inl rfl) rfl (Nat.le_of_ble_eq_true rfl) sx_63 me_89 rfl h (fun r17 u16 h => ?_)
          have g18 := h.1
          have h := h.2
          refine u_ifT (pc := 198) (tgt := 212) (dec_at lsk_67 (k := 73) rfl) rfl (c0_eq g18) (fun e19 => ?_) (fun e19 => ?_)
          · have h := ifT e19 h
            refine u_ld (v := iV 0) (pc := 212) (dec_at lsk_67 (k := 79) rfl) rfl ?_
            refine u_sto (lv' := [.ref 63, .ref 1, iV 0, iV l3, iV (u.1 3 l3)]) (pc := 213) (dec_at lsk_67 (k := 80) rfl) rfl ?_
            refine u_goto (pc := 214) (tgt := 276) (dec_at lsk_67 (k := 81) rfl) rfl ?_
            refine u_inc (lv' := [.ref 63, .ref 1, iV 0, iV (l3 + 1), iV (u.1 3 l3)]) (pc := 276) (dec_at lsk_67 (k := 110) rfl) rfl (by decide) rfl ?_
            refine u_goto (pc := 279) (tgt := 13) (dec_at lsk_67 (k := 111) rfl) rfl ?_
            exact u_weak (sbK (sbK (sbK (sbK (sbD sb0))))) h
          · have h := ifF e19 h
            refine u_ld (v := .ref 63) (pc := 201) (dec_at lsk_67 (k := 74) rfl) rfl ?_
            refine u_cvI (As := []) (rb := 63) (st2 := []) (pc := 202) (dec_at lsk_67 (k := 75) rfl) m_6_101 (Or.inl rfl) rfl (Nat.le_of_ble_eq_true rfl) sx_63 me_90 rfl h (fun r21 u20 h => ?_)
            have g22 := h.1
            have h := h.2
            refine u_ifT (pc := 205) (tgt := 212) (dec_at lsk_67 (k := 76) rfl) rfl (c0_eq g22) (fun e23 => ?_) (fun e23 => ?_)
            · have h := ifT e23 h
              refine u_ld (v := iV 0) (pc := 212) (dec_at lsk_67 (k := 79) rfl) rfl ?_
              refine u_sto (lv' := [.ref 63, .ref 1, iV 0, iV l3, iV (u.1 3 l3)]) (pc := 213) (dec_at lsk_67 (k := 80) rfl) rfl ?_
              refine u_goto (pc := 214) (tgt := 276) (dec_at lsk_67 (k := 81) rfl) rfl ?_
              refine u_inc (lv' := [.ref 63, .ref 1, iV 0, iV (l3 + 1), iV (u.1 3 l3)]) (pc := 276) (dec_at lsk_67 (k := 110) rfl) rfl (by decide) rfl ?_
              refine u_goto (pc := 279) (tgt := 13) (dec_at lsk_67 (k := 111) rfl) rfl ?_
              exact u_weak (sbK (sbK (sbK (sbK (sbD sb0))))) h
            · have h := ifF e23 h
              refine u_ld (v := iV 1) (pc := 208) (dec_at lsk_67 (k := 77) rfl) rfl ?_
              refine u_goto (pc := 209) (tgt := 213) (dec_at lsk_67 (k := 78) rfl) rfl ?_
              refine u_sto (lv' := [.ref 63, .ref 1, iV 1, iV l3, iV (u.1 3 l3)]) (pc := 213) (dec_at lsk_67 (k := 80) rfl) rfl ?_
              refine u_goto (pc := 214) (tgt := 276) (dec_at lsk_67 (k := 81) rfl) rfl ?_
              refine u_inc (lv' := [.ref 63, .ref 1, iV 1, iV (l3 + 1), iV (u.1 3 l3)]) (pc := 276) (dec_at lsk_67 (k := 110) rfl) rfl (by decide) rfl ?_
              refine u_goto (pc := 279) (tgt := 13) (dec_at lsk_67 (k := 111) rfl) rfl ?_
              exact u_weak (sbK (sbK (sbK (sbK (sbD sb0))))) h
      · have h := ifF e11 h
        by_cases e24 : u.1 3 l3 = 41
        · have h := ifT e24 h
          refine u_lsw (pc := 34) (tgt := 217) (o := 183) (dec_at lsk_67 (k := 20) rfl) rfl rfl g10 (by rw [lo_ne e11, lo_eq e24]) rfl ?_
          refine u_ld (v := .ref 63) (pc := 217) (dec_at lsk_67 (k := 82) rfl) rfl ?_
          refine u_cvI (As := []) (rb := 63) (st2 := []) (pc := 218) (dec_at lsk_67 (k := 83) rfl) m_6_94 (Or.inl rfl) rfl (Nat.le_of_ble_eq_true rfl) sx_63 me_86 rfl h (fun r26 u25 h => ?_)
          have g27 := h.1
          have h := h.2
          refine u_ifT (pc := 221) (tgt := 249) (dec_at lsk_67 (k := 84) rfl) rfl (c0_eq g27) (fun e28 => ?_) (fun e28 => ?_)
          · have h := ifT e28 h
            refine u_ld (v := iV 0) (pc := 249) (dec_at lsk_67 (k := 96) rfl) rfl ?_
            refine u_sto (lv' := [.ref 63, .ref 1, iV 0, iV l3, iV (u.1 3 l3)]) (pc := 250) (dec_at lsk_67 (k := 97) rfl) rfl ?_
            refine u_goto (pc := 251) (tgt := 276) (dec_at lsk_67 (k := 98) rfl) rfl ?_
            refine u_inc (lv' := [.ref 63, .ref 1, iV 0, iV (l3 + 1), iV (u.1 3 l3)]) (pc := 276) (dec_at lsk_67 (k := 110) rfl) rfl (by decide) rfl ?_
            refine u_goto (pc := 279) (tgt := 13) (dec_at lsk_67 (k := 111) rfl) rfl ?_
            exact u_weak (sbK (sbK (sbK (sbK (sbD sb0))))) h
          · have h := ifF e28 h
            refine u_ld (v := .ref 63) (pc := 224) (dec_at lsk_67 (k := 85) rfl) rfl ?_
            refine u_cvI (As := []) (rb := 63) (st2 := []) (pc := 225) (dec_at lsk_67 (k := 86) rfl) m_6_98 (Or.inl rfl) rfl (Nat.le_of_ble_eq_true rfl) sx_63 me_89 rfl h (fun r30 u29 h => ?_)
            have g31 := h.1
            have h := h.2
            refine u_ifT (pc := 228) (tgt := 249) (dec_at lsk_67 (k := 87) rfl) rfl (c0_eq g31) (fun e32 => ?_) (fun e32 => ?_)
            · have h := ifT e32 h
              refine u_ld (v := iV 0) (pc := 249) (dec_at lsk_67 (k := 96) rfl) rfl ?_
              refine u_sto (lv' := [.ref 63, .ref 1, iV 0, iV l3, iV (u.1 3 l3)]) (pc := 250) (dec_at lsk_67 (k := 97) rfl) rfl ?_
              refine u_goto (pc := 251) (tgt := 276) (dec_at lsk_67 (k := 98) rfl) rfl ?_
              refine u_inc (lv' := [.ref 63, .ref 1, iV 0, iV (l3 + 1), iV (u.1 3 l3)]) (pc := 276) (dec_at lsk_67 (k := 110) rfl) rfl (by decide) rfl ?_
              refine u_goto (pc := 279) (tgt := 13) (dec_at lsk_67 (k := 111) rfl) rfl ?_
              exact u_weak (sbK (sbK (sbK (sbK (sbD sb0))))) h
            · have h := ifF e32 h
              refine u_ld (v := .ref 63) (pc := 231) (dec_at lsk_67 (k := 88) rfl) rfl ?_
              refine u_cvI (As := []) (rb := 63) (st2 := []) (pc := 232) (dec_at lsk_67 (k := 89) rfl) m_6_101 (Or.inl rfl) rfl (Nat.le_of_ble_eq_true rfl) sx_63 me_90 rfl h (fun r34 u33 h => ?_)
              have g35 := h.1
              have h := h.2
              refine u_ifT (pc := 235) (tgt := 249) (dec_at lsk_67 (k := 90) rfl) rfl (c0_eq g35) (fun e36 => ?_) (fun e36 => ?_)
              · have h := ifT e36 h
                refine u_ld (v := iV 0) (pc := 249) (dec_at lsk_67 (k := 96) rfl) rfl ?_
                refine u_sto (lv' := [.ref 63, .ref 1, iV 0, iV l3, iV (u.1 3 l3)]) (pc := 250) (dec_at lsk_67 (k := 97) rfl) rfl ?_
                refine u_goto (pc := 251) (tgt := 276) (dec_at lsk_67 (k := 98) rfl) rfl ?_
                refine u_inc (lv' := [.ref 63, .ref 1, iV 0, iV (l3 + 1), iV (u.1 3 l3)]) (pc := 276) (dec_at lsk_67 (k := 110) rfl) rfl (by decide) rfl ?_
                refine u_goto (pc := 279) (tgt := 13) (dec_at lsk_67 (k := 111) rfl) rfl ?_
                exact u_weak (sbK (sbK (sbK (sbK (sbD sb0))))) h
              · have h := ifF e36 h
                refine u_ld (v := .ref 63) (pc := 238) (dec_at lsk_67 (k := 91) rfl) rfl ?_
                refine u_cvI (As := []) (rb := 63) (st2 := []) (pc := 239) (dec_at lsk_67 (k := 92) rfl) m_6_104 (Or.inl rfl) rfl (Nat.le_of_ble_eq_true rfl) sx_63 me_91 rfl ?_ (fun _ _ h_ => h_)
                refine u_of me_91 (Nat.le_of_ble_eq_true rfl) ?_
                refine u_ld (v := .ref 63) (pc := 0) (dec_at lsk_91 (k := 0) rfl) rfl ?_
                refine u_gS (o := 17) (p := 80) (pc := 1) (dec_at lsk_91 (k := 1) rfl) f_6_25 sx_63 rfl rfl ?_
                refine u_ld (v := .ref 63) (pc := 4) (dec_at lsk_91 (k := 2) rfl) rfl ?_
                refine u_gS (o := 19) (p := 82) (pc := 5) (dec_at lsk_91 (k := 3) rfl) f_6_28 sx_63 rfl rfl ?_
                refine u_ld (v := .ref 63) (pc := 8) (dec_at lsk_91 (k := 4) rfl) rfl ?_
                refine u_gI (z := 0) (pc := 9) (dec_at lsk_91 (k := 5) rfl) f_6_54 sx_63 rfl rfl ?_
                have g37 := h.1
                have h := h.2
                have g38 := h.1
                have h := h.2
                refine u_aald3 (r := 89 + 6 * (u33.1 63 0).toNat) (pc := 12) (dec_at lsk_91 (k := 6) rfl) sx_82 g37 g38 rfl ?_
                refine u_cvV (As := [.ref (89 + 6 * (u33.1 63 0).toNat)]) (rb := 80) (st2 := []) (pc := 13) (dec_at lsk_91 (k := 7) rfl) m_6_132 (Or.inl rfl) rfl (Nat.le_of_ble_eq_true rfl) sx_80 me_88 rfl ?_ (fun _ h_ => h_)
                refine u_of me_88 (Nat.le_of_ble_eq_true rfl) ?_
                refine u_ld (v := .ref 80) (pc := 0) (dec_at lsk_88 (k := 0) rfl) rfl ?_
                refine u_ld (v := .ref (89 + 6 * (u33.1 63 0).toNat)) (pc := 1) (dec_at lsk_88 (k := 1) rfl) rfl ?_
                refine u_gI (z := 0) (pc := 2) (dec_at lsk_88 (k := 2) rfl) f_5_9 (sr_82 g37 g38) rfl rfl ?_
                refine u_pI (z := 0) (pc := 5) (dec_at lsk_88 (k := 3) rfl) f_5_9 sx_80 rfl rfl rfl rfl (fun u39 e40 => ?_)
                have h := h u39 e40
                refine u_ld (v := .ref 80) (pc := 8) (dec_at lsk_88 (k := 4) rfl) rfl ?_
                refine u_ld (v := .ref (89 + 6 * (u33.1 63 0).toNat)) (pc := 9) (dec_at lsk_88 (k := 5) rfl) rfl ?_
                refine u_gL (z := 1) (pc := 10) (dec_at lsk_88 (k := 6) rfl) f_5_19 (sr_82 g37 g38) rfl rfl ?_
                refine u_pL (z := 1) (pc := 13) (dec_at lsk_88 (k := 7) rfl) f_5_19 sx_80 rfl rfl rfl rfl (fun u41 e42 => ?_)
                have h := h u41 e42
                refine u_ld (v := .ref (89 + 6 * (u33.1 63 0).toNat)) (pc := 16) (dec_at lsk_88 (k := 8) rfl) rfl ?_
                refine u_gS (o := 1) (p := (89 + 6 * (u33.1 63 0).toNat) + 1) (pc := 17) (dec_at lsk_88 (k := 9) rfl) f_5_15 (sr_82 g37 g38) rfl rfl ?_
                refine u_ld (v := iV 0) (pc := 20) (dec_at lsk_88 (k := 10) rfl) rfl ?_
                refine u_ld (v := .ref 80) (pc := 21) (dec_at lsk_88 (k := 11) rfl) rfl ?_
                refine u_gS (o := 1) (p := 81) (pc := 22) (dec_at lsk_88 (k := 12) rfl) f_5_15 sx_80 rfl rfl ?_
                refine u_ld (v := iV 0) (pc := 25) (dec_at lsk_88 (k := 13) rfl) rfl ?_
                refine u_ld (v := .ref 80) (pc := 26) (dec_at lsk_88 (k := 14) rfl) rfl ?_
                refine u_gI (z := 0) (pc := 27) (dec_at lsk_88 (k := 15) rfl) f_5_9 sx_80 rfl rfl ?_
                refine u_c (x := 10) (pc := 30) (dec_at lsk_88 (k := 16) rfl) rfl (by decide) ?_
                refine u_imul (pc := 32) (dec_at lsk_88 (k := 17) rfl) ?_
                have g43 := h.1
                have h := h.2
                have g44 := h.1
                have h := h.2
                refine u_cpyI (pc := 33) (dec_at lsk_88 (k := 18) rfl) m_5_23 (sa_5_2 (sr_82 g37 g38)) sx_81 (by decide) (by decide) g43 g44 g44 (Nat.le_of_ble_eq_true rfl) (fun u45 e46 => ?_)
                have h := h u45 e46
                refine u_rV (pc := 36) (dec_at lsk_88 (k := 19) rfl) rfl ?_
                refine u_ld (v := .ref 63) (pc := 16) (dec_at lsk_91 (k := 8) rfl) rfl ?_
                refine u_ld (v := .ref 63) (pc := 17) (dec_at lsk_91 (k := 9) rfl) rfl ?_
                refine u_gI (z := 0) (pc := 18) (dec_at lsk_91 (k := 10) rfl) f_6_54 sx_63 rfl rfl ?_
                refine u_ld (v := iV 1) (pc := 21) (dec_at lsk_91 (k := 11) rfl) rfl ?_
                refine u_isub (pc := 22) (dec_at lsk_91 (k := 12) rfl) ?_
                refine u_ld (v := iV 0) (pc := 23) (dec_at lsk_91 (k := 13) rfl) rfl ?_
                have g47 := h.1
                have h := h.2
                refine u_max (pc := 24) (dec_at lsk_91 (k := 14) rfl) m_6_136 g47 (by decide) (Nat.le_of_ble_eq_true rfl) ?_
                refine u_pI (z := 0) (pc := 27) (dec_at lsk_91 (k := 15) rfl) f_6_54 sx_63 rfl rfl rfl rfl (fun u48 e49 => ?_)
                have h := h u48 e49
                refine u_ld (v := .ref 63) (pc := 30) (dec_at lsk_91 (k := 16) rfl) rfl ?_
                refine u_ld (v := iV 1) (pc := 31) (dec_at lsk_91 (k := 17) rfl) rfl ?_
                refine u_pZ (z := 13) (pc := 32) (dec_at lsk_91 (k := 18) rfl) f_6_110 sx_63 rfl rfl rfl rfl (by decide) (fun u50 e51 => ?_)
                have h := h u50 e51
                refine u_ld (v := iV 1) (pc := 35) (dec_at lsk_91 (k := 19) rfl) rfl ?_
                refine u_rZ (pc := 36) (dec_at lsk_91 (k := 20) rfl) rfl (by decide) ?_
                refine u_ifT (pc := 242) (tgt := 249) (dec_at lsk_67 (k := 93) rfl) rfl (c0_eq (by decide)) (fun e => absurd e (by decide)) (fun _ => ?_)
                refine u_ld (v := iV 1) (pc := 245) (dec_at lsk_67 (k := 94) rfl) rfl ?_
                refine u_goto (pc := 246) (tgt := 250) (dec_at lsk_67 (k := 95) rfl) rfl ?_
                refine u_sto (lv' := [.ref 63, .ref 1, iV 1, iV l3, iV (u.1 3 l3)]) (pc := 250) (dec_at lsk_67 (k := 97) rfl) rfl ?_
                refine u_goto (pc := 251) (tgt := 276) (dec_at lsk_67 (k := 98) rfl) rfl ?_
                refine u_inc (lv' := [.ref 63, .ref 1, iV 1, iV (l3 + 1), iV (u.1 3 l3)]) (pc := 276) (dec_at lsk_67 (k := 110) rfl) rfl (by decide) rfl ?_
                refine u_goto (pc := 279) (tgt := 13) (dec_at lsk_67 (k := 111) rfl) rfl ?_
                exact u_weak (sbK (sbK (sbK (sbK (sbD sb0))))) h
        · have h := ifF e24 h
          by_cases e52 : u.1 3 l3 = 42
          · have h := ifT e52 h
            refine u_lsw (pc := 34) (tgt := 92) (o := 58) (dec_at lsk_67 (k := 20) rfl) rfl rfl g10 (by rw [lo_ne e11, lo_ne e24, lo_eq e52]) rfl ?_
            refine u_ld (v := .ref 63) (pc := 92) (dec_at lsk_67 (k := 21) rfl) rfl ?_
            refine u_gS (o := 1) (p := 64) (pc := 93) (dec_at lsk_67 (k := 22) rfl) f_6_12 sx_63 rfl rfl ?_
            refine u_ld (v := iV 4) (pc := 96) (dec_at lsk_67 (k := 23) rfl) rfl ?_
            refine u_ld (v := .ref 63) (pc := 97) (dec_at lsk_67 (k := 24) rfl) rfl ?_
            refine u_gS (o := 17) (p := 80) (pc := 98) (dec_at lsk_67 (k := 25) rfl) f_6_25 sx_63 rfl rfl ?_
            refine u_ld (v := .ref 63) (pc := 101) (dec_at lsk_67 (k := 26) rfl) rfl ?_
            refine u_gS (o := 17) (p := 80) (pc := 102) (dec_at lsk_67 (k := 27) rfl) f_6_25 sx_63 rfl rfl ?_
            refine u_ld (v := .ref 63) (pc := 105) (dec_at lsk_67 (k := 28) rfl) rfl ?_
            refine u_gS (o := 17) (p := 80) (pc := 106) (dec_at lsk_67 (k := 29) rfl) f_6_25 sx_63 rfl rfl ?_
            refine u_cvI (As := [iV 4, .ref 80, .ref 80, .ref 80]) (rb := 64) (st2 := []) (pc := 109) (dec_at lsk_67 (k := 30) rfl) m_6_90 (Or.inl rfl) rfl (Nat.le_of_ble_eq_true rfl) sx_64 me_69 rfl h (fun r54 u53 h => ?_)
            refine u_sto (lv' := [.ref 63, .ref 1, iV r54, iV l3, iV (u.1 3 l3)]) (pc := 112) (dec_at lsk_67 (k := 31) rfl) rfl ?_
            refine u_goto (pc := 113) (tgt := 276) (dec_at lsk_67 (k := 32) rfl) rfl ?_
            refine u_inc (lv' := [.ref 63, .ref 1, iV r54, iV (l3 + 1), iV (u.1 3 l3)]) (pc := 276) (dec_at lsk_67 (k := 110) rfl) rfl (by decide) rfl ?_
            refine u_goto (pc := 279) (tgt := 13) (dec_at lsk_67 (k := 111) rfl) rfl ?_
            exact u_weak (sbK (sbK (sbK (sbK (sbD sb0))))) h
          · have h := ifF e52 h
            by_cases e55 : u.1 3 l3 = 43
            · have h := ifT e55 h
              refine u_lsw (pc := 34) (tgt := 116) (o := 82) (dec_at lsk_67 (k := 20) rfl) rfl rfl g10 (by rw [lo_ne e11, lo_ne e24, lo_ne e52, lo_eq e55]) rfl ?_
              refine u_ld (v := .ref 63) (pc := 116) (dec_at lsk_67 (k := 33) rfl) rfl ?_
              refine u_gS (o := 1) (p := 64) (pc := 117) (dec_at lsk_67 (k := 34) rfl) f_6_12 sx_63 rfl rfl ?_
              refine u_ld (v := iV 3) (pc := 120) (dec_at lsk_67 (k := 35) rfl) rfl ?_
              refine u_ld (v := .ref 63) (pc := 121) (dec_at lsk_67 (k := 36) rfl) rfl ?_
              refine u_gS (o := 17) (p := 80) (pc := 122) (dec_at lsk_67 (k := 37) rfl) f_6_25 sx_63 rfl rfl ?_
              refine u_ld (v := .ref 63) (pc := 125) (dec_at lsk_67 (k := 38) rfl) rfl ?_
              refine u_gS (o := 17) (p := 80) (pc := 126) (dec_at lsk_67 (k := 39) rfl) f_6_25 sx_63 rfl rfl ?_
              refine u_ld (v := .ref 63) (pc := 129) (dec_at lsk_67 (k := 40) rfl) rfl ?_
              refine u_gS (o := 17) (p := 80) (pc := 130) (dec_at lsk_67 (k := 41) rfl) f_6_25 sx_63 rfl rfl ?_
              refine u_cvI (As := [iV 3, .ref 80, .ref 80, .ref 80]) (rb := 64) (st2 := []) (pc := 133) (dec_at lsk_67 (k := 42) rfl) m_6_90 (Or.inl rfl) rfl (Nat.le_of_ble_eq_true rfl) sx_64 me_69 rfl h (fun r57 u56 h => ?_)
              refine u_sto (lv' := [.ref 63, .ref 1, iV r57, iV l3, iV (u.1 3 l3)]) (pc := 136) (dec_at lsk_67 (k := 43) rfl) rfl ?_
              refine u_goto (pc := 137) (tgt := 276) (dec_at lsk_67 (k := 44) rfl) rfl ?_
              refine u_inc (lv' := [.ref 63, .ref 1, iV r57, iV (l3 + 1), iV (u.1 3 l3)]) (pc := 276) (dec_at lsk_67 (k := 110) rfl) rfl (by decide) rfl ?_
              refine u_goto (pc := 279) (tgt := 13) (dec_at lsk_67 (k := 111) rfl) rfl ?_
              exact u_weak (sbK (sbK (sbK (sbK (sbD sb0))))) h
            · have h := ifF e55 h
              by_cases e58 : u.1 3 l3 = 63
              · have h := ifT e58 h
                refine u_lsw (pc := 34) (tgt := 140) (o := 106) (dec_at lsk_67 (k := 20) rfl) rfl rfl g10 (by rw [lo_ne e11, lo_ne e24, lo_ne e52, lo_ne e55, lo_eq e58]) rfl ?_
                refine u_ld (v := .ref 63) (pc := 140) (dec_at lsk_67 (k := 45) rfl) rfl ?_
                refine u_gS (o := 1) (p := 64) (pc := 141) (dec_at lsk_67 (k := 46) rfl) f_6_12 sx_63 rfl rfl ?_
                refine u_ld (v := iV 0) (pc := 144) (dec_at lsk_67 (k := 47) rfl) rfl ?_
                refine u_ld (v := .ref 63) (pc := 145) (dec_at lsk_67 (k := 48) rfl) rfl ?_
                refine u_gS (o := 17) (p := 80) (pc := 146) (dec_at lsk_67 (k := 49) rfl) f_6_25 sx_63 rfl rfl ?_
                refine u_ld (v := .ref 63) (pc := 149) (dec_at lsk_67 (k := 50) rfl) rfl ?_
                refine u_gS (o := 15) (p := 78) (pc := 150) (dec_at lsk_67 (k := 51) rfl) f_6_21 sx_63 rfl rfl ?_
                refine u_ld (v := .ref 63) (pc := 153) (dec_at lsk_67 (k := 52) rfl) rfl ?_
                refine u_gS (o := 17) (p := 80) (pc := 154) (dec_at lsk_67 (k := 53) rfl) f_6_25 sx_63 rfl rfl ?_
                refine u_cvI (As := [iV 0, .ref 80, .ref 78, .ref 80]) (rb := 64) (st2 := []) (pc := 157) (dec_at lsk_67 (k := 54) rfl) m_6_90 (Or.inl rfl) rfl (Nat.le_of_ble_eq_true rfl) sx_64 me_69 rfl h (fun r60 u59 h => ?_)
                refine u_sto (lv' := [.ref 63, .ref 1, iV r60, iV l3, iV (u.1 3 l3)]) (pc := 160) (dec_at lsk_67 (k := 55) rfl) rfl ?_
                refine u_goto (pc := 161) (tgt := 276) (dec_at lsk_67 (k := 56) rfl) rfl ?_
                refine u_inc (lv' := [.ref 63, .ref 1, iV r60, iV (l3 + 1), iV (u.1 3 l3)]) (pc := 276) (dec_at lsk_67 (k := 110) rfl) rfl (by decide) rfl ?_
                refine u_goto (pc := 279) (tgt := 13) (dec_at lsk_67 (k := 111) rfl) rfl ?_
                exact u_weak (sbK (sbK (sbK (sbK (sbD sb0))))) h
              · have h := ifF e58 h
                by_cases e61 : u.1 3 l3 = 124
                · have h := ifT e61 h
                  refine u_lsw (pc := 34) (tgt := 164) (o := 130) (dec_at lsk_67 (k := 20) rfl) rfl rfl g10 (by rw [lo_ne e11, lo_ne e24, lo_ne e52, lo_ne e55, lo_ne e58, lo_eq e61]) rfl ?_
                  refine u_ld (v := .ref 63) (pc := 164) (dec_at lsk_67 (k := 57) rfl) rfl ?_
                  refine u_cvI (As := []) (rb := 63) (st2 := []) (pc := 165) (dec_at lsk_67 (k := 58) rfl) m_6_94 (Or.inl rfl) rfl (Nat.le_of_ble_eq_true rfl) sx_63 me_86 rfl h (fun r63 u62 h => ?_)
                  have g64 := h.1
                  have h := h.2
                  refine u_ifT (pc := 168) (tgt := 182) (dec_at lsk_67 (k := 59) rfl) rfl (c0_eq g64) (fun e65 => ?_) (fun e65 => ?_)
                  · have h := ifT e65 h
                    refine u_ld (v := iV 0) (pc := 182) (dec_at lsk_67 (k := 65) rfl) rfl ?_
                    refine u_sto (lv' := [.ref 63, .ref 1, iV 0, iV l3, iV (u.1 3 l3)]) (pc := 183) (dec_at lsk_67 (k := 66) rfl) rfl ?_
                    refine u_goto (pc := 184) (tgt := 276) (dec_at lsk_67 (k := 67) rfl) rfl ?_
                    refine u_inc (lv' := [.ref 63, .ref 1, iV 0, iV (l3 + 1), iV (u.1 3 l3)]) (pc := 276) (dec_at lsk_67 (k := 110) rfl) rfl (by decide) rfl ?_
                    refine u_goto (pc := 279) (tgt := 13) (dec_at lsk_67 (k := 111) rfl) rfl ?_
                    exact u_weak (sbK (sbK (sbK (sbK (sbD sb0))))) h
                  · have h := ifF e65 h
                    refine u_ld (v := .ref 63) (pc := 171) (dec_at lsk_67 (k := 60) rfl) rfl ?_
                    refine u_cvI (As := []) (rb := 63) (st2 := []) (pc := 172) (dec_at lsk_67 (k := 61) rfl) m_6_98 (Or.inl rfl) rfl (Nat.le_of_ble_eq_true rfl) sx_63 me_89 rfl h (fun r67 u66 h => ?_)
                    have g68 := h.1
                    have h := h.2
                    refine u_ifT (pc := 175) (tgt := 182) (dec_at lsk_67 (k := 62) rfl) rfl (c0_eq g68) (fun e69 => ?_) (fun e69 => ?_)
                    · have h := ifT e69 h
                      refine u_ld (v := iV 0) (pc := 182) (dec_at lsk_67 (k := 65) rfl) rfl ?_
                      refine u_sto (lv' := [.ref 63, .ref 1, iV 0, iV l3, iV (u.1 3 l3)]) (pc := 183) (dec_at lsk_67 (k := 66) rfl) rfl ?_
                      refine u_goto (pc := 184) (tgt := 276) (dec_at lsk_67 (k := 67) rfl) rfl ?_
                      refine u_inc (lv' := [.ref 63, .ref 1, iV 0, iV (l3 + 1), iV (u.1 3 l3)]) (pc := 276) (dec_at lsk_67 (k := 110) rfl) rfl (by decide) rfl ?_
                      refine u_goto (pc := 279) (tgt := 13) (dec_at lsk_67 (k := 111) rfl) rfl ?_
                      exact u_weak (sbK (sbK (sbK (sbK (sbD sb0))))) h
                    · have h := ifF e69 h
                      refine u_ld (v := iV 1) (pc := 178) (dec_at lsk_67 (k := 63) rfl) rfl ?_
                      refine u_goto (pc := 179) (tgt := 183) (dec_at lsk_67 (k := 64) rfl) rfl ?_
                      refine u_sto (lv' := [.ref 63, .ref 1, iV 1, iV l3, iV (u.1 3 l3)]) (pc := 183) (dec_at lsk_67 (k := 66) rfl) rfl ?_
                      refine u_goto (pc := 184) (tgt := 276) (dec_at lsk_67 (k := 67) rfl) rfl ?_
                      refine u_inc (lv' := [.ref 63, .ref 1, iV 1, iV (l3 + 1), iV (u.1 3 l3)]) (pc := 276) (dec_at lsk_67 (k := 110) rfl) rfl (by decide) rfl ?_
                      refine u_goto (pc := 279) (tgt := 13) (dec_at lsk_67 (k := 111) rfl) rfl ?_
                      exact u_weak (sbK (sbK (sbK (sbK (sbD sb0))))) h
                · have h := ifF e61 h
                  refine u_lsw (pc := 34) (tgt := 254) (o := 220) (dec_at lsk_67 (k := 20) rfl) rfl rfl g10 (by rw [lo_ne e11, lo_ne e24, lo_ne e52, lo_ne e55, lo_ne e58, lo_ne e61]; rfl) rfl ?_
                  refine u_ld (v := .ref 63) (pc := 254) (dec_at lsk_67 (k := 99) rfl) rfl ?_
                  refine u_cvI (As := []) (rb := 63) (st2 := []) (pc := 255) (dec_at lsk_67 (k := 100) rfl) m_6_94 (Or.inl rfl) rfl (Nat.le_of_ble_eq_true rfl) sx_63 me_86 rfl h (fun r71 u70 h => ?_)
                  have g72 := h.1
                  have h := h.2
                  refine u_ifT (pc := 258) (tgt := 274) (dec_at lsk_67 (k := 101) rfl) rfl (c0_eq g72) (fun e73 => ?_) (fun e73 => ?_)
                  · have h := ifT e73 h
                    refine u_ld (v := iV 0) (pc := 274) (dec_at lsk_67 (k := 108) rfl) rfl ?_
                    refine u_sto (lv' := [.ref 63, .ref 1, iV 0, iV l3, iV (u.1 3 l3)]) (pc := 275) (dec_at lsk_67 (k := 109) rfl) rfl ?_
                    refine u_inc (lv' := [.ref 63, .ref 1, iV 0, iV (l3 + 1), iV (u.1 3 l3)]) (pc := 276) (dec_at lsk_67 (k := 110) rfl) rfl (by decide) rfl ?_
                    refine u_goto (pc := 279) (tgt := 13) (dec_at lsk_67 (k := 111) rfl) rfl ?_
                    exact u_weak (sbK (sbK (sbK (sbK (sbD sb0))))) h
                  · have h := ifF e73 h
                    refine u_ld (v := .ref 63) (pc := 261) (dec_at lsk_67 (k := 102) rfl) rfl ?_
                    refine u_ld (v := iV (u.1 3 l3)) (pc := 262) (dec_at lsk_67 (k := 103) rfl) rfl ?_
                    refine u_cvI (As := [iV (u.1 3 l3)]) (rb := 63) (st2 := []) (pc := 264) (dec_at lsk_67 (k := 104) rfl) m_6_107 (Or.inl rfl) rfl (Nat.le_of_ble_eq_true rfl) sx_63 me_92 rfl h (fun r75 u74 h => ?_)
                    have g76 := h.1
                    have h := h.2
                    refine u_ifT (pc := 267) (tgt := 274) (dec_at lsk_67 (k := 105) rfl) rfl (c0_eq g76) (fun e77 => ?_) (fun e77 => ?_)
                    · have h := ifT e77 h
                      refine u_ld (v := iV 0) (pc := 274) (dec_at lsk_67 (k := 108) rfl) rfl ?_
                      refine u_sto (lv' := [.ref 63, .ref 1, iV 0, iV l3, iV (u.1 3 l3)]) (pc := 275) (dec_at lsk_67 (k := 109) rfl) rfl ?_
                      refine u_inc (lv' := [.ref 63, .ref 1, iV 0, iV (l3 + 1), iV (u.1 3 l3)]) (pc := 276) (dec_at lsk_67 (k := 110) rfl) rfl (by decide) rfl ?_
                      refine u_goto (pc := 279) (tgt := 13) (dec_at lsk_67 (k := 111) rfl) rfl ?_
                      exact u_weak (sbK (sbK (sbK (sbK (sbD sb0))))) h
                    · have h := ifF e77 h
                      refine u_ld (v := iV 1) (pc := 270) (dec_at lsk_67 (k := 106) rfl) rfl ?_
                      refine u_goto (pc := 271) (tgt := 275) (dec_at lsk_67 (k := 107) rfl) rfl ?_
                      refine u_sto (lv' := [.ref 63, .ref 1, iV 1, iV l3, iV (u.1 3 l3)]) (pc := 275) (dec_at lsk_67 (k := 109) rfl) rfl ?_
                      refine u_inc (lv' := [.ref 63, .ref 1, iV 1, iV (l3 + 1), iV (u.1 3 l3)]) (pc := 276) (dec_at lsk_67 (k := 110) rfl) rfl (by decide) rfl ?_
                      refine u_goto (pc := 279) (tgt := 13) (dec_at lsk_67 (k := 111) rfl) rfl ?_
                      exact u_weak (sbK (sbK (sbK (sbK (sbD sb0))))) h
    · have h := ifF e6 h
      refine u_ld (v := iV l2) (pc := 282) (dec_at lsk_67 (k := 112) rfl) rfl ?_
      refine u_ifT (pc := 283) (tgt := 311) (dec_at lsk_67 (k := 113) rfl) rfl (c0_eq g1) (fun e78 => absurd e78 e2) (fun _ => ?_)
      refine u_ld (v := .ref 63) (pc := 286) (dec_at lsk_67 (k := 114) rfl) rfl ?_
      refine u_cvI (As := []) (rb := 63) (st2 := []) (pc := 287) (dec_at lsk_67 (k := 115) rfl) m_6_94 (Or.inl rfl) rfl (Nat.le_of_ble_eq_true rfl) sx_63 me_86 rfl h (fun r80 u79 h => ?_)
      have g81 := h.1
      have h := h.2
      refine u_ifT (pc := 290) (tgt := 311) (dec_at lsk_67 (k := 116) rfl) rfl (c0_eq g81) (fun e82 => ?_) (fun e82 => ?_)
      · have h := ifT e82 h
        refine u_ld (v := iV 0) (pc := 311) (dec_at lsk_67 (k := 125) rfl) rfl ?_
        exact u_rZ (pc := 312) (dec_at lsk_67 (k := 126) rfl) rfl (by decide) h
      · have h := ifF e82 h
        refine u_ld (v := .ref 63) (pc := 293) (dec_at lsk_67 (k := 117) rfl) rfl ?_
        refine u_cvI (As := []) (rb := 63) (st2 := []) (pc := 294) (dec_at lsk_67 (k := 118) rfl) m_6_98 (Or.inl rfl) rfl (Nat.le_of_ble_eq_true rfl) sx_63 me_89 rfl h (fun r84 u83 h => ?_)
        have g85 := h.1
        have h := h.2
        refine u_ifT (pc := 297) (tgt := 311) (dec_at lsk_67 (k := 119) rfl) rfl (c0_eq g85) (fun e86 => ?_) (fun e86 => ?_)
        · have h := ifT e86 h
          refine u_ld (v := iV 0) (pc := 311) (dec_at lsk_67 (k := 125) rfl) rfl ?_
          exact u_rZ (pc := 312) (dec_at lsk_67 (k := 126) rfl) rfl (by decide) h
        · have h := ifF e86 h
          refine u_ld (v := .ref 63) (pc := 300) (dec_at lsk_67 (k := 120) rfl) rfl ?_
          refine u_cvI (As := []) (rb := 63) (st2 := []) (pc := 301) (dec_at lsk_67 (k := 121) rfl) m_6_101 (Or.inl rfl) rfl (Nat.le_of_ble_eq_true rfl) sx_63 me_90 rfl h (fun r88 u87 h => ?_)
          have g89 := h.1
          have h := h.2
          refine u_ifT (pc := 304) (tgt := 311) (dec_at lsk_67 (k := 122) rfl) rfl (c0_eq g89) (fun e90 => ?_) (fun e90 => ?_)
          · have h := ifT e90 h
            refine u_ld (v := iV 0) (pc := 311) (dec_at lsk_67 (k := 125) rfl) rfl ?_
            exact u_rZ (pc := 312) (dec_at lsk_67 (k := 126) rfl) rfl (by decide) h
          · have h := ifF e90 h
            refine u_ld (v := iV 1) (pc := 307) (dec_at lsk_67 (k := 123) rfl) rfl ?_
            refine u_goto (pc := 308) (tgt := 312) (dec_at lsk_67 (k := 124) rfl) rfl ?_
            exact u_rZ (pc := 312) (dec_at lsk_67 (k := 126) rfl) rfl (by decide) h
/-- method 68 -/
def K_68 (d pc : Nat) (lv : ev_L) (st : List Value) (u : uS) (Q : uS → Prop) : Prop := okU d 6 1 false none prog_2_method_7_code (qV Q) pc lv st u
theorem e_68 {d : Nat} {Q : uS → Prop} {u : uS} (h : (0 ≤ u.1 63 0) ∧ ((u.1 63 0 < 16) ∧ (∀ u3 : uS, u3 = wr u 85 (u.1 63 0) 0 → ((0 ≤ u3.1 63 0) ∧ ((u3.1 63 0 < 16) ∧ (∀ u7 : uS, u7 = wr u3 86 (u3.1 63 0) 0 → ((0 ≤ u7.1 63 0) ∧ ((u7.1 63 0 < 16) ∧ (∀ u11 : uS, u11 = wr u7 87 (u7.1 63 0) 0 → ((0 ≤ u11.1 63 0) ∧ ((u11.1 63 0 < 16) ∧ (∀ u15 : uS, u15 = wr u11 88 (u11.1 63 0) 0 → (∀ u17 : uS, u17 = wr u15 63 13 0 → (Q u17)))))))))))))) : cV (d + 1) 68 [.ref 63] u Q := by
  refine u_of me_68 (Nat.le_of_ble_eq_true rfl) ?_
  refine u_ld (v := .ref 63) (pc := 0) (dec_at lsk_68 (k := 0) rfl) rfl ?_
  refine u_gS (o := 22) (p := 85) (pc := 1) (dec_at lsk_68 (k := 1) rfl) f_6_38 sx_63 rfl rfl ?_
  refine u_ld (v := .ref 63) (pc := 4) (dec_at lsk_68 (k := 2) rfl) rfl ?_
  refine u_gI (z := 0) (pc := 5) (dec_at lsk_68 (k := 3) rfl) f_6_54 sx_63 rfl rfl ?_
  refine u_ld (v := iV 0) (pc := 8) (dec_at lsk_68 (k := 4) rfl) rfl ?_
  have g1 := h.1
  have h := h.2
  have g2 := h.1
  have h := h.2
  refine u_zast (pc := 9) (dec_at lsk_68 (k := 5) rfl) sx_85 g1 g2 (by decide) (fun u3 e4 => ?_)
  have h := h u3 e4
  refine u_ld (v := .ref 63) (pc := 10) (dec_at lsk_68 (k := 6) rfl) rfl ?_
  refine u_gS (o := 23) (p := 86) (pc := 11) (dec_at lsk_68 (k := 7) rfl) f_6_42 sx_63 rfl rfl ?_
  refine u_ld (v := .ref 63) (pc := 14) (dec_at lsk_68 (k := 8) rfl) rfl ?_
  refine u_gI (z := 0) (pc := 15) (dec_at lsk_68 (k := 9) rfl) f_6_54 sx_63 rfl rfl ?_
  refine u_ld (v := iV 0) (pc := 18) (dec_at lsk_68 (k := 10) rfl) rfl ?_
  have g5 := h.1
  have h := h.2
  have g6 := h.1
  have h := h.2
  refine u_zast (pc := 19) (dec_at lsk_68 (k := 11) rfl) sx_86 g5 g6 (by decide) (fun u7 e8 => ?_)
  have h := h u7 e8
  refine u_ld (v := .ref 63) (pc := 20) (dec_at lsk_68 (k := 12) rfl) rfl ?_
  refine u_gS (o := 24) (p := 87) (pc := 21) (dec_at lsk_68 (k := 13) rfl) f_6_45 sx_63 rfl rfl ?_
  refine u_ld (v := .ref 63) (pc := 24) (dec_at lsk_68 (k := 14) rfl) rfl ?_
  refine u_gI (z := 0) (pc := 25) (dec_at lsk_68 (k := 15) rfl) f_6_54 sx_63 rfl rfl ?_
  refine u_ld (v := iV 0) (pc := 28) (dec_at lsk_68 (k := 16) rfl) rfl ?_
  have g9 := h.1
  have h := h.2
  have g10 := h.1
  have h := h.2
  refine u_zast (pc := 29) (dec_at lsk_68 (k := 17) rfl) sx_87 g9 g10 (by decide) (fun u11 e12 => ?_)
  have h := h u11 e12
  refine u_ld (v := .ref 63) (pc := 30) (dec_at lsk_68 (k := 18) rfl) rfl ?_
  refine u_gS (o := 25) (p := 88) (pc := 31) (dec_at lsk_68 (k := 19) rfl) f_6_48 sx_63 rfl rfl ?_
  refine u_ld (v := .ref 63) (pc := 34) (dec_at lsk_68 (k := 20) rfl) rfl ?_
  refine u_gI (z := 0) (pc := 35) (dec_at lsk_68 (k := 21) rfl) f_6_54 sx_63 rfl rfl ?_
  refine u_ld (v := iV 0) (pc := 38) (dec_at lsk_68 (k := 22) rfl) rfl ?_
  have g13 := h.1
  have h := h.2
  have g14 := h.1
  have h := h.2
  refine u_zast (pc := 39) (dec_at lsk_68 (k := 23) rfl) sx_88 g13 g14 (by decide) (fun u15 e16 => ?_)
  have h := h u15 e16
  refine u_ld (v := .ref 63) (pc := 40) (dec_at lsk_68 (k := 24) rfl) rfl ?_
  refine u_ld (v := iV 0) (pc := 41) (dec_at lsk_68 (k := 25) rfl) rfl ?_
  refine u_pZ (z := 13) (pc := 42) (dec_at lsk_68 (k := 26) rfl) f_6_110 sx_63 rfl rfl rfl rfl (by decide) (fun u17 e18 => ?_)
  have h := h u17 e18
  exact u_rV (pc := 45) (dec_at lsk_68 (k := 27) rfl) rfl h
/-- method 86 -/
def K_86 (d pc : Nat) (lv : ev_L) (st : List Value) (u : uS) (Q : Int → uS → Prop) : Prop := okU d 6 1 false (some .boolean) prog_2_method_10_code (qI Q) pc lv st u
theorem e_86 {d : Nat} {Q : Int → uS → Prop} {u : uS} (h : (rI (u.1 63 13)) ∧ (if u.1 63 13 = 0 then (Q 1 u) else (∀ u3 : uS, u3 = wr u 63 13 0 → ((0 ≤ u3.1 63 0) ∧ ((u3.1 63 0 < 16) ∧ ((rI (u3.1 88 (u3.1 63 0))) ∧ (if u3.1 88 (u3.1 63 0) = 0 then (K_86 (d + 1) 43 [.ref 63] [] u3 Q) else (∀ u9 : uS, u9 = wr u3 80 1 (land (lxor (u3.1 80 1) (-1)) ((lshl 1 (u3.1 80 0)) - 1)) → ((0 ≤ u9.1 63 0) ∧ ((u9.1 63 0 < 16) ∧ (∀ u13 : uS, u13 = wr u9 88 (u9.1 63 0) 0 → (K_86 (d + 1) 43 [.ref 63] [] u13 Q)))))))))))) : cI (d + 2) 86 [.ref 63] u Q := by
  refine u_of me_86 (Nat.le_of_ble_eq_true rfl) ?_
  refine u_ld (v := .ref 63) (pc := 0) (dec_at lsk_86 (k := 0) rfl) rfl ?_
  refine u_gZ (z := 13) (pc := 1) (dec_at lsk_86 (k := 1) rfl) f_6_110 sx_63 rfl rfl ?_
  have g1 := h.1
  have h := h.2
  refine u_ifF (pc := 4) (tgt := 9) (dec_at lsk_86 (k := 2) rfl) rfl (c0_ne g1) (fun e2 => ?_) (fun e2 => ?_)
  · have h := ifT e2 h
    refine u_ld (v := iV 1) (pc := 7) (dec_at lsk_86 (k := 3) rfl) rfl ?_
    exact u_rZ (pc := 8) (dec_at lsk_86 (k := 4) rfl) rfl (by decide) h
  · have h := ifF e2 h
    refine u_ld (v := .ref 63) (pc := 9) (dec_at lsk_86 (k := 5) rfl) rfl ?_
    refine u_ld (v := iV 0) (pc := 10) (dec_at lsk_86 (k := 6) rfl) rfl ?_
    refine u_pZ (z := 13) (pc := 11) (dec_at lsk_86 (k := 7) rfl) f_6_110 sx_63 rfl rfl rfl rfl (by decide) (fun u3 e4 => ?_)
    have h := h u3 e4
    refine u_ld (v := .ref 63) (pc := 14) (dec_at lsk_86 (k := 8) rfl) rfl ?_
    refine u_gS (o := 25) (p := 88) (pc := 15) (dec_at lsk_86 (k := 9) rfl) f_6_48 sx_63 rfl rfl ?_
    refine u_ld (v := .ref 63) (pc := 18) (dec_at lsk_86 (k := 10) rfl) rfl ?_
    refine u_gI (z := 0) (pc := 19) (dec_at lsk_86 (k := 11) rfl) f_6_54 sx_63 rfl rfl ?_
    have g5 := h.1
    have h := h.2
    have g6 := h.1
    have h := h.2
    refine u_zald (pc := 22) (dec_at lsk_86 (k := 12) rfl) sx_88 g5 g6 ?_
    have g7 := h.1
    have h := h.2
    refine u_ifT (pc := 23) (tgt := 43) (dec_at lsk_86 (k := 13) rfl) rfl (c0_eq g7) (fun e8 => ?_) (fun e8 => ?_)
    · have h := ifT e8 h
      exact h
    · have h := ifF e8 h
      refine u_ld (v := .ref 63) (pc := 26) (dec_at lsk_86 (k := 14) rfl) rfl ?_
      refine u_gS (o := 17) (p := 80) (pc := 27) (dec_at lsk_86 (k := 15) rfl) f_6_25 sx_63 rfl rfl ?_
      refine u_cvV (As := []) (rb := 80) (st2 := []) (pc := 30) (dec_at lsk_86 (k := 16) rfl) m_6_139 (Or.inl rfl) rfl (Nat.le_of_ble_eq_true rfl) sx_80 me_87 rfl ?_ (fun _ h_ => h_)
      refine u_of me_87 (Nat.le_of_ble_eq_true rfl) ?_
      refine u_ld (v := .ref 80) (pc := 0) (dec_at lsk_87 (k := 0) rfl) rfl ?_
      refine u_ld (v := .ref 80) (pc := 1) (dec_at lsk_87 (k := 1) rfl) rfl ?_
      refine u_gL (z := 1) (pc := 2) (dec_at lsk_87 (k := 2) rfl) f_5_19 sx_80 rfl rfl ?_
      refine u_ldc2 (x := (-1)) (pc := 5) (dec_at lsk_87 (k := 3) rfl) con_5_39 (by decide) ?_
      refine u_lxor (pc := 8) (dec_at lsk_87 (k := 4) rfl) ?_
      refine u_cl (x := 1) (pc := 9) (dec_at lsk_87 (k := 5) rfl) rfl (by decide) ?_
      refine u_ld (v := .ref 80) (pc := 10) (dec_at lsk_87 (k := 6) rfl) rfl ?_
      refine u_gI (z := 0) (pc := 11) (dec_at lsk_87 (k := 7) rfl) f_5_9 sx_80 rfl rfl ?_
      refine u_lshl (pc := 14) (dec_at lsk_87 (k := 8) rfl) ?_
      refine u_cl (x := 1) (pc := 15) (dec_at lsk_87 (k := 9) rfl) rfl (by decide) ?_
      refine u_lsub (pc := 16) (dec_at lsk_87 (k := 10) rfl) ?_
      refine u_land (pc := 17) (dec_at lsk_87 (k := 11) rfl) ?_
      refine u_pL (z := 1) (pc := 18) (dec_at lsk_87 (k := 12) rfl) f_5_19 sx_80 rfl rfl rfl rfl (fun u9 e10 => ?_)
      have h := h u9 e10
      refine u_rV (pc := 21) (dec_at lsk_87 (k := 13) rfl) rfl ?_
      refine u_ld (v := .ref 63) (pc := 33) (dec_at lsk_86 (k := 17) rfl) rfl ?_
      refine u_gS (o := 25) (p := 88) (pc := 34) (dec_at lsk_86 (k := 18) rfl) f_6_48 sx_63 rfl rfl ?_
      refine u_ld (v := .ref 63) (pc := 37) (dec_at lsk_86 (k := 19) rfl) rfl ?_
      refine u_gI (z := 0) (pc := 38) (dec_at lsk_86 (k := 20) rfl) f_6_54 sx_63 rfl rfl ?_
      refine u_ld (v := iV 0) (pc := 41) (dec_at lsk_86 (k := 21) rfl) rfl ?_
      have g11 := h.1
      have h := h.2
      have g12 := h.1
      have h := h.2
      refine u_zast (pc := 42) (dec_at lsk_86 (k := 22) rfl) sx_88 g11 g12 (by decide) (fun u13 e14 => ?_)
      have h := h u13 e14
      exact h
theorem k_86_43 {d : Nat} {Q : Int → uS → Prop} {u : uS} (h : (0 ≤ u.1 63 0) ∧ ((u.1 63 0 < 16) ∧ ((rI (u.1 87 (u.1 63 0))) ∧ (if u.1 87 (u.1 63 0) = 0 then (∀ u5 : uS, u5 = wr u 87 (u.1 63 0) 1 → ((0 ≤ u5.1 63 0) ∧ ((u5.1 63 0 < 16) ∧ (∀ u9 : uS, u9 = wr u5 (93 + 6 * (u5.1 63 0).toNat) 0 (u5.1 80 0) → (∀ u11 : uS, u11 = wr u9 (93 + 6 * (u5.1 63 0).toNat) 1 (u9.1 80 1) → ((0 ≤ (u11.1 (93 + 6 * (u5.1 63 0).toNat) 0) * 10) ∧ ((0 + ((u11.1 (93 + 6 * (u5.1 63 0).toNat) 0) * 10) ≤ 400) ∧ (∀ u15 : uS, u15 = cpy u11 81 0 ((93 + 6 * (u5.1 63 0).toNat) + 1) 0 ((u11.1 (93 + 6 * (u5.1 63 0).toNat) 0) * 10) → (Q 1 u15))))))))) else (cI (d + 1) 69 [.ref 64, iV 2, .ref (93 + 6 * (u.1 63 0).toNat), .ref 80, .ref (93 + 6 * (u.1 63 0).toNat)] u (fun r18 u17 => (r18 = 0 ∨ r18 = 1) ∧ (Q r18 u17))))))) : K_86 (d + 1) 43 [.ref 63] [] u Q := by
  unfold K_86
  refine u_ld (v := .ref 63) (pc := 43) (dec_at lsk_86 (k := 23) rfl) rfl ?_
  refine u_gS (o := 24) (p := 87) (pc := 44) (dec_at lsk_86 (k := 24) rfl) f_6_45 sx_63 rfl rfl ?_
  refine u_ld (v := .ref 63) (pc := 47) (dec_at lsk_86 (k := 25) rfl) rfl ?_
  refine u_gI (z := 0) (pc := 48) (dec_at lsk_86 (k := 26) rfl) f_6_54 sx_63 rfl rfl ?_
  have g1 := h.1
  have h := h.2
  have g2 := h.1
  have h := h.2
  refine u_zald (pc := 51) (dec_at lsk_86 (k := 27) rfl) sx_87 g1 g2 ?_
  have g3 := h.1
  have h := h.2
  refine u_ifT (pc := 52) (tgt := 86) (dec_at lsk_86 (k := 28) rfl) rfl (c0_eq g3) (fun e4 => ?_) (fun e4 => ?_)
  · have h := ifT e4 h
    refine u_ld (v := .ref 63) (pc := 86) (dec_at lsk_86 (k := 46) rfl) rfl ?_
    refine u_gS (o := 24) (p := 87) (pc := 87) (dec_at lsk_86 (k := 47) rfl) f_6_45 sx_63 rfl rfl ?_
    refine u_ld (v := .ref 63) (pc := 90) (dec_at lsk_86 (k := 48) rfl) rfl ?_
    refine u_gI (z := 0) (pc := 91) (dec_at lsk_86 (k := 49) rfl) f_6_54 sx_63 rfl rfl ?_
    refine u_ld (v := iV 1) (pc := 94) (dec_at lsk_86 (k := 50) rfl) rfl ?_
    refine u_zast (pc := 95) (dec_at lsk_86 (k := 51) rfl) sx_87 g1 g2 (by decide) (fun u5 e6 => ?_)
    have h := h u5 e6
    refine u_ld (v := .ref 63) (pc := 96) (dec_at lsk_86 (k := 52) rfl) rfl ?_
    refine u_gS (o := 21) (p := 84) (pc := 97) (dec_at lsk_86 (k := 53) rfl) f_6_35 sx_63 rfl rfl ?_
    refine u_ld (v := .ref 63) (pc := 100) (dec_at lsk_86 (k := 54) rfl) rfl ?_
    refine u_gI (z := 0) (pc := 101) (dec_at lsk_86 (k := 55) rfl) f_6_54 sx_63 rfl rfl ?_
    have g7 := h.1
    have h := h.2
    have g8 := h.1
    have h := h.2
    refine u_aald3 (r := 93 + 6 * (u5.1 63 0).toNat) (pc := 104) (dec_at lsk_86 (k := 56) rfl) sx_84 g7 g8 rfl ?_
    refine u_ld (v := .ref 63) (pc := 105) (dec_at lsk_86 (k := 57) rfl) rfl ?_
    refine u_gS (o := 17) (p := 80) (pc := 106) (dec_at lsk_86 (k := 58) rfl) f_6_25 sx_63 rfl rfl ?_
    refine u_cvV (As := [.ref 80]) (rb := 93 + 6 * (u5.1 63 0).toNat) (st2 := []) (pc := 109) (dec_at lsk_86 (k := 59) rfl) m_6_132 (Or.inl rfl) rfl (Nat.le_of_ble_eq_true rfl) (sr_84 g7 g8) me_88 rfl ?_ (fun _ h_ => h_)
    refine u_of me_88 (Nat.le_of_ble_eq_true rfl) ?_
    refine u_ld (v := .ref (93 + 6 * (u5.1 63 0).toNat)) (pc := 0) (dec_at lsk_88 (k := 0) rfl) rfl ?_
    refine u_ld (v := .ref 80) (pc := 1) (dec_at lsk_88 (k := 1) rfl) rfl ?_
    refine u_gI (z := 0) (pc := 2) (dec_at lsk_88 (k := 2) rfl) f_5_9 sx_80 rfl rfl ?_
    refine u_pI (z := 0) (pc := 5) (dec_at lsk_88 (k := 3) rfl) f_5_9 (sr_84 g7 g8) rfl rfl rfl rfl (fun u9 e10 => ?_)
    have h := h u9 e10
    refine u_ld (v := .ref (93 + 6 * (u5.1 63 0).toNat)) (pc := 8) (dec_at lsk_88 (k := 4) rfl) rfl ?_
    refine u_ld (v := .ref 80) (pc := 9) (dec_at lsk_88 (k := 5) rfl) rfl ?_
    refine u_gL (z := 1) (pc := 10) (dec_at lsk_88 (k := 6) rfl) f_5_19 sx_80 rfl rfl ?_
    refine u_pL (z := 1) (pc := 13) (dec_at lsk_88 (k := 7) rfl) f_5_19 (sr_84 g7 g8) rfl rfl rfl rfl (fun u11 e12 => ?_)
    have h := h u11 e12
    refine u_ld (v := .ref 80) (pc := 16) (dec_at lsk_88 (k := 8) rfl) rfl ?_
    refine u_gS (o := 1) (p := 81) (pc := 17) (dec_at lsk_88 (k := 9) rfl) f_5_15 sx_80 rfl rfl ?_
    refine u_ld (v := iV 0) (pc := 20) (dec_at lsk_88 (k := 10) rfl) rfl ?_
    refine u_ld (v := .ref (93 + 6 * (u5.1 63 0).toNat)) (pc := 21) (dec_at lsk_88 (k := 11) rfl) rfl ?_
    refine u_gS (o := 1) (p := (93 + 6 * (u5.1 63 0).toNat) + 1) (pc := 22) (dec_at lsk_88 (k := 12) rfl) f_5_15 (sr_84 g7 g8) rfl rfl ?_
    refine u_ld (v := iV 0) (pc := 25) (dec_at lsk_88 (k := 13) rfl) rfl ?_
    refine u_ld (v := .ref (93 + 6 * (u5.1 63 0).toNat)) (pc := 26) (dec_at lsk_88 (k := 14) rfl) rfl ?_
    refine u_gI (z := 0) (pc := 27) (dec_at lsk_88 (k := 15) rfl) f_5_9 (sr_84 g7 g8) rfl rfl ?_
    refine u_c (x := 10) (pc := 30) (dec_at lsk_88 (k := 16) rfl) rfl (by decide) ?_
    refine u_imul (pc := 32) (dec_at lsk_88 (k := 17) rfl) ?_
    have g13 := h.1
    have h := h.2
    have g14 := h.1
    have h := h.2
    refine u_cpyI (pc := 33) (dec_at lsk_88 (k := 18) rfl) m_5_23 sx_81 (sa_5_2 (sr_84 g7 g8)) (by decide) (by decide) g13 g14 g14 (Nat.le_of_ble_eq_true rfl) (fun u15 e16 => ?_)
    have h := h u15 e16
    refine u_rV (pc := 36) (dec_at lsk_88 (k := 19) rfl) rfl ?_
    refine u_ld (v := iV 1) (pc := 112) (dec_at lsk_86 (k := 60) rfl) rfl ?_
    exact u_rZ (pc := 113) (dec_at lsk_86 (k := 61) rfl) rfl (by decide) h
  · have h := ifF e4 h
    refine u_ld (v := .ref 63) (pc := 55) (dec_at lsk_86 (k := 29) rfl) rfl ?_
    refine u_gS (o := 1) (p := 64) (pc := 56) (dec_at lsk_86 (k := 30) rfl) f_6_12 sx_63 rfl rfl ?_
    refine u_ld (v := iV 2) (pc := 59) (dec_at lsk_86 (k := 31) rfl) rfl ?_
    refine u_ld (v := .ref 63) (pc := 60) (dec_at lsk_86 (k := 32) rfl) rfl ?_
    refine u_gS (o := 21) (p := 84) (pc := 61) (dec_at lsk_86 (k := 33) rfl) f_6_35 sx_63 rfl rfl ?_
    refine u_ld (v := .ref 63) (pc := 64) (dec_at lsk_86 (k := 34) rfl) rfl ?_
    refine u_gI (z := 0) (pc := 65) (dec_at lsk_86 (k := 35) rfl) f_6_54 sx_63 rfl rfl ?_
    refine u_aald3 (r := 93 + 6 * (u.1 63 0).toNat) (pc := 68) (dec_at lsk_86 (k := 36) rfl) sx_84 g1 g2 rfl ?_
    refine u_ld (v := .ref 63) (pc := 69) (dec_at lsk_86 (k := 37) rfl) rfl ?_
    refine u_gS (o := 17) (p := 80) (pc := 70) (dec_at lsk_86 (k := 38) rfl) f_6_25 sx_63 rfl rfl ?_
    refine u_ld (v := .ref 63) (pc := 73) (dec_at lsk_86 (k := 39) rfl) rfl ?_
    refine u_gS (o := 21) (p := 84) (pc := 74) (dec_at lsk_86 (k := 40) rfl) f_6_35 sx_63 rfl rfl ?_
    refine u_ld (v := .ref 63) (pc := 77) (dec_at lsk_86 (k := 41) rfl) rfl ?_
    refine u_gI (z := 0) (pc := 78) (dec_at lsk_86 (k := 42) rfl) f_6_54 sx_63 rfl rfl ?_
    refine u_aald3 (r := 93 + 6 * (u.1 63 0).toNat) (pc := 81) (dec_at lsk_86 (k := 43) rfl) sx_84 g1 g2 rfl ?_
    refine u_cvI (As := [iV 2, .ref (93 + 6 * (u.1 63 0).toNat), .ref 80, .ref (93 + 6 * (u.1 63 0).toNat)]) (rb := 64) (st2 := []) (pc := 82) (dec_at lsk_86 (k := 44) rfl) m_6_90 (Or.inl rfl) rfl (Nat.le_of_ble_eq_true rfl) sx_64 me_69 rfl h (fun r18 u17 h => ?_)
    have g19 := h.1
    have h := h.2
    exact u_rZ (pc := 85) (dec_at lsk_86 (k := 45) rfl) rfl g19 h
/-- method 89 -/
def K_89 (d pc : Nat) (lv : ev_L) (st : List Value) (u : uS) (Q : Int → uS → Prop) : Prop := okU d 6 2 false (some .boolean) prog_2_method_11_code (qI Q) pc lv st u
theorem e_89 {d : Nat} {Q : Int → uS → Prop} {u : uS} (h : (0 ≤ u.1 63 0) ∧ ((u.1 63 0 < 16) ∧ ((rI (u.1 87 (u.1 63 0))) ∧ (if u.1 87 (u.1 63 0) = 0 then (K_89 (d + 1) 28 [.ref 63, .retAddr 0] [.ref 78] u Q) else (K_89 (d + 1) 28 [.ref 63, .retAddr 0] [.ref (93 + 6 * (u.1 63 0).toNat)] u Q))))) : cI (d + 2) 89 [.ref 63] u Q := by
  refine u_of me_89 (Nat.le_of_ble_eq_true rfl) ?_
  refine u_ld (v := .ref 63) (pc := 0) (dec_at lsk_89 (k := 0) rfl) rfl ?_
  refine u_gS (o := 24) (p := 87) (pc := 1) (dec_at lsk_89 (k := 1) rfl) f_6_45 sx_63 rfl rfl ?_
  refine u_ld (v := .ref 63) (pc := 4) (dec_at lsk_89 (k := 2) rfl) rfl ?_
  refine u_gI (z := 0) (pc := 5) (dec_at lsk_89 (k := 3) rfl) f_6_54 sx_63 rfl rfl ?_
  have g1 := h.1
  have h := h.2
  have g2 := h.1
  have h := h.2
  refine u_zald (pc := 8) (dec_at lsk_89 (k := 4) rfl) sx_87 g1 g2 ?_
  have g3 := h.1
  have h := h.2
  refine u_ifT (pc := 9) (tgt := 24) (dec_at lsk_89 (k := 5) rfl) rfl (c0_eq g3) (fun e4 => ?_) (fun e4 => ?_)
  · have h := ifT e4 h
    refine u_ld (v := .ref 63) (pc := 24) (dec_at lsk_89 (k := 12) rfl) rfl ?_
    refine u_gS (o := 15) (p := 78) (pc := 25) (dec_at lsk_89 (k := 13) rfl) f_6_21 sx_63 rfl rfl ?_
    exact h
  · have h := ifF e4 h
    refine u_ld (v := .ref 63) (pc := 12) (dec_at lsk_89 (k := 6) rfl) rfl ?_
    refine u_gS (o := 21) (p := 84) (pc := 13) (dec_at lsk_89 (k := 7) rfl) f_6_35 sx_63 rfl rfl ?_
    refine u_ld (v := .ref 63) (pc := 16) (dec_at lsk_89 (k := 8) rfl) rfl ?_
    refine u_gI (z := 0) (pc := 17) (dec_at lsk_89 (k := 9) rfl) f_6_54 sx_63 rfl rfl ?_
    refine u_aald3 (r := 93 + 6 * (u.1 63 0).toNat) (pc := 20) (dec_at lsk_89 (k := 10) rfl) sx_84 g1 g2 rfl ?_
    refine u_goto (pc := 21) (tgt := 28) (dec_at lsk_89 (k := 11) rfl) rfl ?_
    exact h
theorem k_89_28 {d : Nat} {Q : Int → uS → Prop} {u : uS} {s0 : Nat} (hOs0 : isO s0 5) (h : (0 ≤ u.1 63 0) ∧ ((u.1 63 0 < 16) ∧ (∀ u3 : uS, u3 = wr u 87 (u.1 63 0) 0 → ((0 ≤ u3.1 63 0) ∧ ((u3.1 63 0 < 16) ∧ ((rI (u3.1 86 (u3.1 63 0))) ∧ (if u3.1 86 (u3.1 63 0) = 0 then (∀ u9 : uS, u9 = wr u3 86 (u3.1 63 0) 1 → ((0 ≤ u9.1 63 0) ∧ ((u9.1 63 0 < 16) ∧ (∀ u13 : uS, u13 = wr u9 (91 + 6 * (u9.1 63 0).toNat) 0 (u9.1 s0 0) → (∀ u15 : uS, u15 = wr u13 (91 + 6 * (u9.1 63 0).toNat) 1 (u13.1 s0 1) → ((0 ≤ (u15.1 (91 + 6 * (u9.1 63 0).toNat) 0) * 10) ∧ ((0 + ((u15.1 (91 + 6 * (u9.1 63 0).toNat) 0) * 10) ≤ 400) ∧ (∀ u19 : uS, u19 = cpy u15 (s0 + 1) 0 ((91 + 6 * (u9.1 63 0).toNat) + 1) 0 ((u15.1 (91 + 6 * (u9.1 63 0).toNat) 0) * 10) → (Q 1 u19))))))))) else (cI (d + 1) 69 [.ref 64, iV 0, .ref (91 + 6 * (u3.1 63 0).toNat), .ref s0, .ref (91 + 6 * (u3.1 63 0).toNat)] u3 (fun r22 u21 => (r22 = 0 ∨ r22 = 1) ∧ (Q r22 u21)))))))))) : K_89 (d + 1) 28 [.ref 63, .retAddr 0] [.ref s0] u Q := by
  unfold K_89
  refine u_sto (lv' := [.ref 63, .ref s0]) (pc := 28) (dec_at lsk_89 (k := 14) rfl) rfl ?_
  refine u_ld (v := .ref 63) (pc := 29) (dec_at lsk_89 (k := 15) rfl) rfl ?_
  refine u_gS (o := 24) (p := 87) (pc := 30) (dec_at lsk_89 (k := 16) rfl) f_6_45 sx_63 rfl rfl ?_
  refine u_ld (v := .ref 63) (pc := 33) (dec_at lsk_89 (k := 17) rfl) rfl ?_
  refine u_gI (z := 0) (pc := 34) (dec_at lsk_89 (k := 18) rfl) f_6_54 sx_63 rfl rfl ?_
  refine u_ld (v := iV 0) (pc := 37) (dec_at lsk_89 (k := 19) rfl) rfl ?_
  have g1 := h.1
  have h := h.2
  have g2 := h.1
  have h := h.2
  refine u_zast (pc := 38) (dec_at lsk_89 (k := 20) rfl) sx_87 g1 g2 (by decide) (fun u3 e4 => ?_)
  have h := h u3 e4
  refine u_ld (v := .ref 63) (pc := 39) (dec_at lsk_89 (k := 21) rfl) rfl ?_
  refine u_gS (o := 23) (p := 86) (pc := 40) (dec_at lsk_89 (k := 22) rfl) f_6_42 sx_63 rfl rfl ?_
  refine u_ld (v := .ref 63) (pc := 43) (dec_at lsk_89 (k := 23) rfl) rfl ?_
  refine u_gI (z := 0) (pc := 44) (dec_at lsk_89 (k := 24) rfl) f_6_54 sx_63 rfl rfl ?_
  have g5 := h.1
  have h := h.2
  have g6 := h.1
  have h := h.2
  refine u_zald (pc := 47) (dec_at lsk_89 (k := 25) rfl) sx_86 g5 g6 ?_
  have g7 := h.1
  have h := h.2
  refine u_ifT (pc := 48) (tgt := 79) (dec_at lsk_89 (k := 26) rfl) rfl (c0_eq g7) (fun e8 => ?_) (fun e8 => ?_)
  · have h := ifT e8 h
    refine u_ld (v := .ref 63) (pc := 79) (dec_at lsk_89 (k := 43) rfl) rfl ?_
    refine u_gS (o := 23) (p := 86) (pc := 80) (dec_at lsk_89 (k := 44) rfl) f_6_42 sx_63 rfl rfl ?_
    refine u_ld (v := .ref 63) (pc := 83) (dec_at lsk_89 (k := 45) rfl) rfl ?_
    refine u_gI (z := 0) (pc := 84) (dec_at lsk_89 (k := 46) rfl) f_6_54 sx_63 rfl rfl ?_
    refine u_ld (v := iV 1) (pc := 87) (dec_at lsk_89 (k := 47) rfl) rfl ?_
    refine u_zast (pc := 88) (dec_at lsk_89 (k := 48) rfl) sx_86 g5 g6 (by decide) (fun u9 e10 => ?_)
    have h := h u9 e10
    refine u_ld (v := .ref 63) (pc := 89) (dec_at lsk_89 (k := 49) rfl) rfl ?_
    refine u_gS (o := 20) (p := 83) (pc := 90) (dec_at lsk_89 (k := 50) rfl) f_6_32 sx_63 rfl rfl ?_
    refine u_ld (v := .ref 63) (pc := 93) (dec_at lsk_89 (k := 51) rfl) rfl ?_
    refine u_gI (z := 0) (pc := 94) (dec_at lsk_89 (k := 52) rfl) f_6_54 sx_63 rfl rfl ?_
    have g11 := h.1
    have h := h.2
    have g12 := h.1
    have h := h.2
    refine u_aald3 (r := 91 + 6 * (u9.1 63 0).toNat) (pc := 97) (dec_at lsk_89 (k := 53) rfl) sx_83 g11 g12 rfl ?_
    refine u_ld (v := .ref s0) (pc := 98) (dec_at lsk_89 (k := 54) rfl) rfl ?_
    refine u_cvV (As := [.ref s0]) (rb := 91 + 6 * (u9.1 63 0).toNat) (st2 := []) (pc := 99) (dec_at lsk_89 (k := 55) rfl) m_6_132 (Or.inl rfl) rfl (Nat.le_of_ble_eq_true rfl) (sr_83 g11 g12) me_88 rfl ?_ (fun _ h_ => h_)
    refine u_of me_88 (Nat.le_of_ble_eq_true rfl) ?_
    refine u_ld (v := .ref (91 + 6 * (u9.1 63 0).toNat)) (pc := 0) (dec_at lsk_88 (k := 0) rfl) rfl ?_
    refine u_ld (v := .ref s0) (pc := 1) (dec_at lsk_88 (k := 1) rfl) rfl ?_
    refine u_gI (z := 0) (pc := 2) (dec_at lsk_88 (k := 2) rfl) f_5_9 hOs0 rfl rfl ?_
    refine u_pI (z := 0) (pc := 5) (dec_at lsk_88 (k := 3) rfl) f_5_9 (sr_83 g11 g12) rfl rfl rfl rfl (fun u13 e14 => ?_)
    have h := h u13 e14
    refine u_ld (v := .ref (91 + 6 * (u9.1 63 0).toNat)) (pc := 8) (dec_at lsk_88 (k := 4) rfl) rfl ?_
    refine u_ld (v := .ref s0) (pc := 9) (dec_at lsk_88 (k := 5) rfl) rfl ?_
    refine u_gL (z := 1) (pc := 10) (dec_at lsk_88 (k := 6) rfl) f_5_19 hOs0 rfl rfl ?_
    refine u_pL (z := 1) (pc := 13) (dec_at lsk_88 (k := 7) rfl) f_5_19 (sr_83 g11 g12) rfl rfl rfl rfl (fun u15 e16 => ?_)
    have h := h u15 e16
    refine u_ld (v := .ref s0) (pc := 16) (dec_at lsk_88 (k := 8) rfl) rfl ?_
    refine u_gS (o := 1) (p := s0 + 1) (pc := 17) (dec_at lsk_88 (k := 9) rfl) f_5_15 hOs0 rfl rfl ?_
    refine u_ld (v := iV 0) (pc := 20) (dec_at lsk_88 (k := 10) rfl) rfl ?_
    refine u_ld (v := .ref (91 + 6 * (u9.1 63 0).toNat)) (pc := 21) (dec_at lsk_88 (k := 11) rfl) rfl ?_
    refine u_gS (o := 1) (p := (91 + 6 * (u9.1 63 0).toNat) + 1) (pc := 22) (dec_at lsk_88 (k := 12) rfl) f_5_15 (sr_83 g11 g12) rfl rfl ?_
    refine u_ld (v := iV 0) (pc := 25) (dec_at lsk_88 (k := 13) rfl) rfl ?_
    refine u_ld (v := .ref (91 + 6 * (u9.1 63 0).toNat)) (pc := 26) (dec_at lsk_88 (k := 14) rfl) rfl ?_
    refine u_gI (z := 0) (pc := 27) (dec_at lsk_88 (k := 15) rfl) f_5_9 (sr_83 g11 g12) rfl rfl ?_
    refine u_c (x := 10) (pc := 30) (dec_at lsk_88 (k := 16) rfl) rfl (by decide) ?_
    refine u_imul (pc := 32) (dec_at lsk_88 (k := 17) rfl) ?_
    have g17 := h.1
    have h := h.2
    have g18 := h.1
    have h := h.2
    refine u_cpyI (pc := 33) (dec_at lsk_88 (k := 18) rfl) m_5_23 (sa_5_2 hOs0) (sa_5_2 (sr_83 g11 g12)) (by decide) (by decide) g17 g18 g18 (Nat.le_of_ble_eq_true rfl) (fun u19 e20 => ?_)
    have h := h u19 e20
    refine u_rV (pc := 36) (dec_at lsk_88 (k := 19) rfl) rfl ?_
    refine u_ld (v := iV 1) (pc := 102) (dec_at lsk_89 (k := 56) rfl) rfl ?_
    exact u_rZ (pc := 103) (dec_at lsk_89 (k := 57) rfl) rfl (by decide) h
  · have h := ifF e8 h
    refine u_ld (v := .ref 63) (pc := 51) (dec_at lsk_89 (k := 27) rfl) rfl ?_
    refine u_gS (o := 1) (p := 64) (pc := 52) (dec_at lsk_89 (k := 28) rfl) f_6_12 sx_63 rfl rfl ?_
    refine u_ld (v := iV 0) (pc := 55) (dec_at lsk_89 (k := 29) rfl) rfl ?_
    refine u_ld (v := .ref 63) (pc := 56) (dec_at lsk_89 (k := 30) rfl) rfl ?_
    refine u_gS (o := 20) (p := 83) (pc := 57) (dec_at lsk_89 (k := 31) rfl) f_6_32 sx_63 rfl rfl ?_
    refine u_ld (v := .ref 63) (pc := 60) (dec_at lsk_89 (k := 32) rfl) rfl ?_
    refine u_gI (z := 0) (pc := 61) (dec_at lsk_89 (k := 33) rfl) f_6_54 sx_63 rfl rfl ?_
    refine u_aald3 (r := 91 + 6 * (u3.1 63 0).toNat) (pc := 64) (dec_at lsk_89 (k := 34) rfl) sx_83 g5 g6 rfl ?_
    refine u_ld (v := .ref s0) (pc := 65) (dec_at lsk_89 (k := 35) rfl) rfl ?_
    refine u_ld (v := .ref 63) (pc := 66) (dec_at lsk_89 (k := 36) rfl) rfl ?_
    refine u_gS (o := 20) (p := 83) (pc := 67) (dec_at lsk_89 (k := 37) rfl) f_6_32 sx_63 rfl rfl ?_
    refine u_ld (v := .ref 63) (pc := 70) (dec_at lsk_89 (k := 38) rfl) rfl ?_
    refine u_gI (z := 0) (pc := 71) (dec_at lsk_89 (k := 39) rfl) f_6_54 sx_63 rfl rfl ?_
    refine u_aald3 (r := 91 + 6 * (u3.1 63 0).toNat) (pc := 74) (dec_at lsk_89 (k := 40) rfl) sx_83 g5 g6 rfl ?_
    refine u_cvI (As := [iV 0, .ref (91 + 6 * (u3.1 63 0).toNat), .ref s0, .ref (91 + 6 * (u3.1 63 0).toNat)]) (rb := 64) (st2 := []) (pc := 75) (dec_at lsk_89 (k := 41) rfl) m_6_90 (Or.inl rfl) rfl (Nat.le_of_ble_eq_true rfl) sx_64 me_69 rfl h (fun r22 u21 h => ?_)
    have g23 := h.1
    have h := h.2
    exact u_rZ (pc := 78) (dec_at lsk_89 (k := 42) rfl) rfl g23 h
/-- method 90 -/
def K_90 (d pc : Nat) (lv : ev_L) (st : List Value) (u : uS) (Q : Int → uS → Prop) : Prop := okU d 6 1 false (some .boolean) prog_2_method_12_code (qI Q) pc lv st u
theorem e_90 {d : Nat} {Q : Int → uS → Prop} {u : uS} (h : (0 ≤ u.1 63 0) ∧ ((u.1 63 0 < 16) ∧ (∀ u3 : uS, u3 = wr u 86 (u.1 63 0) 0 → ((0 ≤ u3.1 63 0) ∧ ((u3.1 63 0 < 16) ∧ ((rI (u3.1 85 (u3.1 63 0))) ∧ (if u3.1 85 (u3.1 63 0) = 0 then (∀ u9 : uS, u9 = wr u3 85 (u3.1 63 0) 1 → ((0 ≤ u9.1 63 0) ∧ ((u9.1 63 0 < 16) ∧ (∀ u13 : uS, u13 = wr u9 (89 + 6 * (u9.1 63 0).toNat) 0 (u9.1 (91 + 6 * (u9.1 63 0).toNat) 0) → (∀ u15 : uS, u15 = wr u13 (89 + 6 * (u9.1 63 0).toNat) 1 (u13.1 (91 + 6 * (u9.1 63 0).toNat) 1) → ((0 ≤ (u15.1 (89 + 6 * (u9.1 63 0).toNat) 0) * 10) ∧ ((0 + ((u15.1 (89 + 6 * (u9.1 63 0).toNat) 0) * 10) ≤ 400) ∧ (∀ u19 : uS, u19 = cpy u15 ((91 + 6 * (u9.1 63 0).toNat) + 1) 0 ((89 + 6 * (u9.1 63 0).toNat) + 1) 0 ((u15.1 (89 + 6 * (u9.1 63 0).toNat) 0) * 10) → (Q 1 u19))))))))) else (cI (d + 1) 69 [.ref 64, iV 1, .ref (89 + 6 * (u3.1 63 0).toNat), .ref (91 + 6 * (u3.1 63 0).toNat), .ref (89 + 6 * (u3.1 63 0).toNat)] u3 (fun r22 u21 => (r22 = 0 ∨ r22 = 1) ∧ (Q r22 u21)))))))))) : cI (d + 2) 90 [.ref 63] u Q := by
  refine u_of me_90 (Nat.le_of_ble_eq_true rfl) ?_
  refine u_ld (v := .ref 63) (pc := 0) (dec_at lsk_90 (k := 0) rfl) rfl ?_
  refine u_gS (o := 23) (p := 86) (pc := 1) (dec_at lsk_90 (k := 1) rfl) f_6_42 sx_63 rfl rfl ?_
  refine u_ld (v := .ref 63) (pc := 4) (dec_at lsk_90 (k := 2) rfl) rfl ?_
  refine u_gI (z := 0) (pc := 5) (dec_at lsk_90 (k := 3) rfl) f_6_54 sx_63 rfl rfl ?_
  refine u_ld (v := iV 0) (pc := 8) (dec_at lsk_90 (k := 4) rfl) rfl ?_
  have g1 := h.1
  have h := h.2
  have g2 := h.1
  have h := h.2
  refine u_zast (pc := 9) (dec_at lsk_90 (k := 5) rfl) sx_86 g1 g2 (by decide) (fun u3 e4 => ?_)
  have h := h u3 e4
  refine u_ld (v := .ref 63) (pc := 10) (dec_at lsk_90 (k := 6) rfl) rfl ?_
  refine u_gS (o := 22) (p := 85) (pc := 11) (dec_at lsk_90 (k := 7) rfl) f_6_38 sx_63 rfl rfl ?_
  refine u_ld (v := .ref 63) (pc := 14) (dec_at lsk_90 (k := 8) rfl) rfl ?_
  refine u_gI (z := 0) (pc := 15) (dec_at lsk_90 (k := 9) rfl) f_6_54 sx_63 rfl rfl ?_
  have g5 := h.1
  have h := h.2
  have g6 := h.1
  have h := h.2
  refine u_zald (pc := 18) (dec_at lsk_90 (k := 10) rfl) sx_85 g5 g6 ?_
  have g7 := h.1
  have h := h.2
  refine u_ifT (pc := 19) (tgt := 58) (dec_at lsk_90 (k := 11) rfl) rfl (c0_eq g7) (fun e8 => ?_) (fun e8 => ?_)
  · have h := ifT e8 h
    refine u_ld (v := .ref 63) (pc := 58) (dec_at lsk_90 (k := 32) rfl) rfl ?_
    refine u_gS (o := 22) (p := 85) (pc := 59) (dec_at lsk_90 (k := 33) rfl) f_6_38 sx_63 rfl rfl ?_
    refine u_ld (v := .ref 63) (pc := 62) (dec_at lsk_90 (k := 34) rfl) rfl ?_
    refine u_gI (z := 0) (pc := 63) (dec_at lsk_90 (k := 35) rfl) f_6_54 sx_63 rfl rfl ?_
    refine u_ld (v := iV 1) (pc := 66) (dec_at lsk_90 (k := 36) rfl) rfl ?_
    refine u_zast (pc := 67) (dec_at lsk_90 (k := 37) rfl) sx_85 g5 g6 (by decide) (fun u9 e10 => ?_)
    have h := h u9 e10
    refine u_ld (v := .ref 63) (pc := 68) (dec_at lsk_90 (k := 38) rfl) rfl ?_
    refine u_gS (o := 19) (p := 82) (pc := 69) (dec_at lsk_90 (k := 39) rfl) f_6_28 sx_63 rfl rfl ?_
    refine u_ld (v := .ref 63) (pc := 72) (dec_at lsk_90 (k := 40) rfl) rfl ?_
    refine u_gI (z := 0) (pc := 73) (dec_at lsk_90 (k := 41) rfl) f_6_54 sx_63 rfl rfl ?_
    have g11 := h.1
    have h := h.2
    have g12 := h.1
    have h := h.2
    refine u_aald3 (r := 89 + 6 * (u9.1 63 0).toNat) (pc := 76) (dec_at lsk_90 (k := 42) rfl) sx_82 g11 g12 rfl ?_
    refine u_ld (v := .ref 63) (pc := 77) (dec_at lsk_90 (k := 43) rfl) rfl ?_
    refine u_gS (o := 20) (p := 83) (pc := 78) (dec_at lsk_90 (k := 44) rfl) f_6_32 sx_63 rfl rfl ?_
    refine u_ld (v := .ref 63) (pc := 81) (dec_at lsk_90 (k := 45) rfl) rfl ?_
    refine u_gI (z := 0) (pc := 82) (dec_at lsk_90 (k := 46) rfl) f_6_54 sx_63 rfl rfl ?_
    refine u_aald3 (r := 91 + 6 * (u9.1 63 0).toNat) (pc := 85) (dec_at lsk_90 (k := 47) rfl) sx_83 g11 g12 rfl ?_
    refine u_cvV (As := [.ref (91 + 6 * (u9.1 63 0).toNat)]) (rb := 89 + 6 * (u9.1 63 0).toNat) (st2 := []) (pc := 86) (dec_at lsk_90 (k := 48) rfl) m_6_132 (Or.inl rfl) rfl (Nat.le_of_ble_eq_true rfl) (sr_82 g11 g12) me_88 rfl ?_ (fun _ h_ => h_)
    refine u_of me_88 (Nat.le_of_ble_eq_true rfl) ?_
    refine u_ld (v := .ref (89 + 6 * (u9.1 63 0).toNat)) (pc := 0) (dec_at lsk_88 (k := 0) rfl) rfl ?_
    refine u_ld (v := .ref (91 + 6 * (u9.1 63 0).toNat)) (pc := 1) (dec_at lsk_88 (k := 1) rfl) rfl ?_
    refine u_gI (z := 0) (pc := 2) (dec_at lsk_88 (k := 2) rfl) f_5_9 (sr_83 g11 g12) rfl rfl ?_
    refine u_pI (z := 0) (pc := 5) (dec_at lsk_88 (k := 3) rfl) f_5_9 (sr_82 g11 g12) rfl rfl rfl rfl (fun u13 e14 => ?_)
    have h := h u13 e14
    refine u_ld (v := .ref (89 + 6 * (u9.1 63 0).toNat)) (pc := 8) (dec_at lsk_88 (k := 4) rfl) rfl ?_
    refine u_ld (v := .ref (91 + 6 * (u9.1 63 0).toNat)) (pc := 9) (dec_at lsk_88 (k := 5) rfl) rfl ?_
    refine u_gL (z := 1) (pc := 10) (dec_at lsk_88 (k := 6) rfl) f_5_19 (sr_83 g11 g12) rfl rfl ?_
    refine u_pL (z := 1) (pc := 13) (dec_at lsk_88 (k := 7) rfl) f_5_19 (sr_82 g11 g12) rfl rfl rfl rfl (fun u15 e16 => ?_)
    have h := h u15 e16
    refine u_ld (v := .ref (91 + 6 * (u9.1 63 0).toNat)) (pc := 16) (dec_at lsk_88 (k := 8) rfl) rfl ?_
    refine u_gS (o := 1) (p := (91 + 6 * (u9.1 63 0).toNat) + 1) (pc := 17) (dec_at lsk_88 (k := 9) rfl) f_5_15 (sr_83 g11 g12) rfl rfl ?_
    refine u_ld (v := iV 0) (pc := 20) (dec_at lsk_88 (k := 10) rfl) rfl ?_
    refine u_ld (v := .ref (89 + 6 * (u9.1 63 0).toNat)) (pc := 21) (dec_at lsk_88 (k := 11) rfl) rfl ?_
    refine u_gS (o := 1) (p := (89 + 6 * (u9.1 63 0).toNat) + 1) (pc := 22) (dec_at lsk_88 (k := 12) rfl) f_5_15 (sr_82 g11 g12) rfl rfl ?_
    refine u_ld (v := iV 0) (pc := 25) (dec_at lsk_88 (k := 13) rfl) rfl ?_
    refine u_ld (v := .ref (89 + 6 * (u9.1 63 0).toNat)) (pc := 26) (dec_at lsk_88 (k := 14) rfl) rfl ?_
    refine u_gI (z := 0) (pc := 27) (dec_at lsk_88 (k := 15) rfl) f_5_9 (sr_82 g11 g12) rfl rfl ?_
    refine u_c (x := 10) (pc := 30) (dec_at lsk_88 (k := 16) rfl) rfl (by decide) ?_
    refine u_imul (pc := 32) (dec_at lsk_88 (k := 17) rfl) ?_
    have g17 := h.1
    have h := h.2
    have g18 := h.1
    have h := h.2
    refine u_cpyI (pc := 33) (dec_at lsk_88 (k := 18) rfl) m_5_23 (sa_5_2 (sr_83 g11 g12)) (sa_5_2 (sr_82 g11 g12)) (by decide) (by decide) g17 g18 g18 (Nat.le_of_ble_eq_true rfl) (fun u19 e20 => ?_)
    have h := h u19 e20
    refine u_rV (pc := 36) (dec_at lsk_88 (k := 19) rfl) rfl ?_
    refine u_ld (v := iV 1) (pc := 89) (dec_at lsk_90 (k := 49) rfl) rfl ?_
    exact u_rZ (pc := 90) (dec_at lsk_90 (k := 50) rfl) rfl (by decide) h
  · have h := ifF e8 h
    refine u_ld (v := .ref 63) (pc := 22) (dec_at lsk_90 (k := 12) rfl) rfl ?_
    refine u_gS (o := 1) (p := 64) (pc := 23) (dec_at lsk_90 (k := 13) rfl) f_6_12 sx_63 rfl rfl ?_
    refine u_ld (v := iV 1) (pc := 26) (dec_at lsk_90 (k := 14) rfl) rfl ?_
    refine u_ld (v := .ref 63) (pc := 27) (dec_at lsk_90 (k := 15) rfl) rfl ?_
    refine u_gS (o := 19) (p := 82) (pc := 28) (dec_at lsk_90 (k := 16) rfl) f_6_28 sx_63 rfl rfl ?_
    refine u_ld (v := .ref 63) (pc := 31) (dec_at lsk_90 (k := 17) rfl) rfl ?_
    refine u_gI (z := 0) (pc := 32) (dec_at lsk_90 (k := 18) rfl) f_6_54 sx_63 rfl rfl ?_
    refine u_aald3 (r := 89 + 6 * (u3.1 63 0).toNat) (pc := 35) (dec_at lsk_90 (k := 19) rfl) sx_82 g5 g6 rfl ?_
    refine u_ld (v := .ref 63) (pc := 36) (dec_at lsk_90 (k := 20) rfl) rfl ?_
    refine u_gS (o := 20) (p := 83) (pc := 37) (dec_at lsk_90 (k := 21) rfl) f_6_32 sx_63 rfl rfl ?_
    refine u_ld (v := .ref 63) (pc := 40) (dec_at lsk_90 (k := 22) rfl) rfl ?_
    refine u_gI (z := 0) (pc := 41) (dec_at lsk_90 (k := 23) rfl) f_6_54 sx_63 rfl rfl ?_
    refine u_aald3 (r := 91 + 6 * (u3.1 63 0).toNat) (pc := 44) (dec_at lsk_90 (k := 24) rfl) sx_83 g5 g6 rfl ?_
    refine u_ld (v := .ref 63) (pc := 45) (dec_at lsk_90 (k := 25) rfl) rfl ?_
    refine u_gS (o := 19) (p := 82) (pc := 46) (dec_at lsk_90 (k := 26) rfl) f_6_28 sx_63 rfl rfl ?_
    refine u_ld (v := .ref 63) (pc := 49) (dec_at lsk_90 (k := 27) rfl) rfl ?_
    refine u_gI (z := 0) (pc := 50) (dec_at lsk_90 (k := 28) rfl) f_6_54 sx_63 rfl rfl ?_
    refine u_aald3 (r := 89 + 6 * (u3.1 63 0).toNat) (pc := 53) (dec_at lsk_90 (k := 29) rfl) sx_82 g5 g6 rfl ?_
    refine u_cvI (As := [iV 1, .ref (89 + 6 * (u3.1 63 0).toNat), .ref (91 + 6 * (u3.1 63 0).toNat), .ref (89 + 6 * (u3.1 63 0).toNat)]) (rb := 64) (st2 := []) (pc := 54) (dec_at lsk_90 (k := 30) rfl) m_6_90 (Or.inl rfl) rfl (Nat.le_of_ble_eq_true rfl) sx_64 me_69 rfl h (fun r22 u21 h => ?_)
    have g23 := h.1
    have h := h.2
    exact u_rZ (pc := 57) (dec_at lsk_90 (k := 31) rfl) rfl g23 h
/-- method 91 -/
def K_91 (d pc : Nat) (lv : ev_L) (st : List Value) (u : uS) (Q : Int → uS → Prop) : Prop := okU d 6 1 false (some .boolean) prog_2_method_9_code (qI Q) pc lv st u
theorem e_91 {d : Nat} {Q : Int → uS → Prop} {u : uS} (h : (0 ≤ u.1 63 0) ∧ ((u.1 63 0 < 16) ∧ (∀ u3 : uS, u3 = wr u 80 0 (u.1 (89 + 6 * (u.1 63 0).toNat) 0) → (∀ u5 : uS, u5 = wr u3 80 1 (u3.1 (89 + 6 * (u.1 63 0).toNat) 1) → ((0 ≤ (u5.1 80 0) * 10) ∧ ((0 + ((u5.1 80 0) * 10) ≤ 400) ∧ (∀ u9 : uS, u9 = cpy u5 ((89 + 6 * (u.1 63 0).toNat) + 1) 0 81 0 ((u5.1 80 0) * 10) → ((rI ((u9.1 63 0) - 1)) ∧ (∀ u12 : uS, u12 = wr u9 63 0 (max ((u9.1 63 0) - 1) 0) → (∀ u14 : uS, u14 = wr u12 63 13 1 → (Q 1 u14))))))))))) : cI (d + 2) 91 [.ref 63] u Q := by
  refine u_of me_91 (Nat.le_of_ble_eq_true rfl) ?_
  refine u_ld (v := .ref 63) (pc := 0) (dec_at lsk_91 (k := 0) rfl) rfl ?_
  refine u_gS (o := 17) (p := 80) (pc := 1) (dec_at lsk_91 (k := 1) rfl) f_6_25 sx_63 rfl rfl ?_
  refine u_ld (v := .ref 63) (pc := 4) (dec_at lsk_91 (k := 2) rfl) rfl ?_
  refine u_gS (o := 19) (p := 82) (pc := 5) (dec_at lsk_91 (k := 3) rfl) f_6_28 sx_63 rfl rfl ?_
  refine u_ld (v := .ref 63) (pc := 8) (dec_at lsk_91 (k := 4) rfl) rfl ?_
  refine u_gI (z := 0) (pc := 9) (dec_at lsk_91 (k := 5) rfl) f_6_54 sx_63 rfl rfl ?_
  have g1 := h.1
  have h := h.2
  have g2 := h.1
  have h := h.2
  refine u_aald3 (r := 89 + 6 * (u.1 63 0).toNat) (pc := 12) (dec_at lsk_91 (k := 6) rfl) sx_82 g1 g2 rfl ?_
  refine u_cvV (As := [.ref (89 + 6 * (u.1 63 0).toNat)]) (rb := 80) (st2 := []) (pc := 13) (dec_at lsk_91 (k := 7) rfl) m_6_132 (Or.inl rfl) rfl (Nat.le_of_ble_eq_true rfl) sx_80 me_88 rfl ?_ (fun _ h_ => h_)
  refine u_of me_88 (Nat.le_of_ble_eq_true rfl) ?_
  refine u_ld (v := .ref 80) (pc := 0) (dec_at lsk_88 (k := 0) rfl) rfl ?_
  refine u_ld (v := .ref (89 + 6 * (u.1 63 0).toNat)) (pc := 1) (dec_at lsk_88 (k := 1) rfl) rfl ?_
  refine u_gI (z := 0) (pc := 2) (dec_at lsk_88 (k := 2) rfl) f_5_9 (sr_82 g1 g2) rfl rfl ?_
  refine u_pI (z := 0) (pc := 5) (dec_at lsk_88 (k := 3) rfl) f_5_9 sx_80 rfl rfl rfl rfl (fun u3 e4 => ?_)
  have h := h u3 e4
  refine u_ld (v := .ref 80) (pc := 8) (dec_at lsk_88 (k := 4) rfl) rfl ?_
  refine u_ld (v := .ref (89 + 6 * (u.1 63 0).toNat)) (pc := 9) (dec_at lsk_88 (k := 5) rfl) rfl ?_
  refine u_gL (z := 1) (pc := 10) (dec_at lsk_88 (k := 6) rfl) f_5_19 (sr_82 g1 g2) rfl rfl ?_
  refine u_pL (z := 1) (pc := 13) (dec_at lsk_88 (k := 7) rfl) f_5_19 sx_80 rfl rfl rfl rfl (fun u5 e6 => ?_)
  have h := h u5 e6
  refine u_ld (v := .ref (89 + 6 * (u.1 63 0).toNat)) (pc := 16) (dec_at lsk_88 (k := 8) rfl) rfl ?_
  refine u_gS (o := 1) (p := (89 + 6 * (u.1 63 0).toNat) + 1) (pc := 17) (dec_at lsk_88 (k := 9) rfl) f_5_15 (sr_82 g1 g2) rfl rfl ?_
  refine u_ld (v := iV 0) (pc := 20) (dec_at lsk_88 (k := 10) rfl) rfl ?_
  refine u_ld (v := .ref 80) (pc := 21) (dec_at lsk_88 (k := 11) rfl) rfl ?_
  refine u_gS (o := 1) (p := 81) (pc := 22) (dec_at lsk_88 (k := 12) rfl) f_5_15 sx_80 rfl rfl ?_
  refine u_ld (v := iV 0) (pc := 25) (dec_at lsk_88 (k := 13) rfl) rfl ?_
  refine u_ld (v := .ref 80) (pc := 26) (dec_at lsk_88 (k := 14) rfl) rfl ?_
  refine u_gI (z := 0) (pc := 27) (dec_at lsk_88 (k := 15) rfl) f_5_9 sx_80 rfl rfl ?_
  refine u_c (x := 10) (pc := 30) (dec_at lsk_88 (k := 16) rfl) rfl (by decide) ?_
  refine u_imul (pc := 32) (dec_at lsk_88 (k := 17) rfl) ?_
  have g7 := h.1
  have h := h.2
  have g8 := h.1
  have h := h.2
  refine u_cpyI (pc := 33) (dec_at lsk_88 (k := 18) rfl) m_5_23 (sa_5_2 (sr_82 g1 g2)) sx_81 (by decide) (by decide) g7 g8 g8 (Nat.le_of_ble_eq_true rfl) (fun u9 e10 => ?_)
  have h := h u9 e10
  refine u_rV (pc := 36) (dec_at lsk_88 (k := 19) rfl) rfl ?_
  refine u_ld (v := .ref 63) (pc := 16) (dec_at lsk_91 (k := 8) rfl) rfl ?_
  refine u_ld (v := .ref 63) (pc := 17) (dec_at lsk_91 (k := 9) rfl) rfl ?_
  refine u_gI (z := 0) (pc := 18) (dec_at lsk_91 (k := 10) rfl) f_6_54 sx_63 rfl rfl ?_
  refine u_ld (v := iV 1) (pc := 21) (dec_at lsk_91 (k := 11) rfl) rfl ?_
  refine u_isub (pc := 22) (dec_at lsk_91 (k := 12) rfl) ?_
  refine u_ld (v := iV 0) (pc := 23) (dec_at lsk_91 (k := 13) rfl) rfl ?_
  have g11 := h.1
  have h := h.2
  refine u_max (pc := 24) (dec_at lsk_91 (k := 14) rfl) m_6_136 g11 (by decide) (Nat.le_of_ble_eq_true rfl) ?_
  refine u_pI (z := 0) (pc := 27) (dec_at lsk_91 (k := 15) rfl) f_6_54 sx_63 rfl rfl rfl rfl (fun u12 e13 => ?_)
  have h := h u12 e13
  refine u_ld (v := .ref 63) (pc := 30) (dec_at lsk_91 (k := 16) rfl) rfl ?_
  refine u_ld (v := iV 1) (pc := 31) (dec_at lsk_91 (k := 17) rfl) rfl ?_
  refine u_pZ (z := 13) (pc := 32) (dec_at lsk_91 (k := 18) rfl) f_6_110 sx_63 rfl rfl rfl rfl (by decide) (fun u14 e15 => ?_)
  have h := h u14 e15
  refine u_ld (v := iV 1) (pc := 35) (dec_at lsk_91 (k := 19) rfl) rfl ?_
  exact u_rZ (pc := 36) (dec_at lsk_91 (k := 20) rfl) rfl (by decide) h
/-- method 92 -/
def K_92 (d pc : Nat) (lv : ev_L) (st : List Value) (u : uS) (Q : Int → uS → Prop) : Prop := okU d 6 2 false (some .boolean) prog_2_method_8_code (qI Q) pc lv st u
theorem e_92 {d : Nat} {Q : Int → uS → Prop} {u : uS} {l1 : Int} (h : (rI l1) ∧ (if l1 = 33 then ((0 ≤ u.1 63 0) ∧ ((u.1 63 0 < 16) ∧ ((rI (u.1 88 (u.1 63 0))) ∧ (if u.1 88 (u.1 63 0) = 0 then (∀ u7 : uS, u7 = wr u 88 (u.1 63 0) 1 → (Q 1 u7)) else (∀ u9 : uS, u9 = wr u 88 (u.1 63 0) 0 → (Q 1 u9)))))) else (if l1 = 40 then ((rI ((u.1 63 0) + 1)) ∧ (∀ u13 : uS, u13 = wr u 63 0 (min ((u.1 63 0) + 1) 15) → ((0 ≤ u13.1 63 0) ∧ ((u13.1 63 0 < 16) ∧ (∀ u17 : uS, u17 = wr u13 85 (u13.1 63 0) 0 → ((0 ≤ u17.1 63 0) ∧ ((u17.1 63 0 < 16) ∧ (∀ u21 : uS, u21 = wr u17 86 (u17.1 63 0) 0 → ((0 ≤ u21.1 63 0) ∧ ((u21.1 63 0 < 16) ∧ (∀ u25 : uS, u25 = wr u21 87 (u21.1 63 0) 0 → ((0 ≤ u25.1 63 0) ∧ ((u25.1 63 0 < 16) ∧ (∀ u29 : uS, u29 = wr u25 88 (u25.1 63 0) 0 → (∀ u31 : uS, u31 = wr u29 63 13 0 → (Q 1 u31)))))))))))))))) else (if l1 = 46 then (cV (d + 1) 94 [.ref 80] u (fun u34 => ∀ u35 : uS, u35 = wr u34 63 13 1 → (Q 1 u35))) else (if l1 = 48 then (cV (d + 1) 95 [.ref 80] u (fun u38 => ∀ u39 : uS, u39 = wr u38 63 13 1 → (Q 1 u39))) else (cV (d + 1) 96 [.ref 80, iV (l1 - 97)] u (fun u41 => ∀ u42 : uS, u42 = wr u41 63 13 1 → (Q 1 u42)))))))) : cI (d + 2) 92 [.ref 63, iV l1] u Q := by
  refine u_of me_92 (Nat.le_of_ble_eq_true rfl) ?_
  refine u_ld (v := iV l1) (pc := 0) (dec_at lsk_92 (k := 0) rfl) rfl ?_
  refine u_c (x := 33) (pc := 1) (dec_at lsk_92 (k := 1) rfl) rfl (by decide) ?_
  have g1 := h.1
  have h := h.2
  refine u_icF (pc := 3) (tgt := 34) (dec_at lsk_92 (k := 2) rfl) rfl (ci_ne g1 (by decide)) (fun e2 => ?_) (fun e2 => ?_)
  · have h := ifT e2 h
    refine u_ld (v := .ref 63) (pc := 6) (dec_at lsk_92 (k := 3) rfl) rfl ?_
    refine u_gS (o := 25) (p := 88) (pc := 7) (dec_at lsk_92 (k := 4) rfl) f_6_48 sx_63 rfl rfl ?_
    refine u_ld (v := .ref 63) (pc := 10) (dec_at lsk_92 (k := 5) rfl) rfl ?_
    refine u_gI (z := 0) (pc := 11) (dec_at lsk_92 (k := 6) rfl) f_6_54 sx_63 rfl rfl ?_
    refine u_ld (v := .ref 63) (pc := 14) (dec_at lsk_92 (k := 7) rfl) rfl ?_
    refine u_gS (o := 25) (p := 88) (pc := 15) (dec_at lsk_92 (k := 8) rfl) f_6_48 sx_63 rfl rfl ?_
    refine u_ld (v := .ref 63) (pc := 18) (dec_at lsk_92 (k := 9) rfl) rfl ?_
    refine u_gI (z := 0) (pc := 19) (dec_at lsk_92 (k := 10) rfl) f_6_54 sx_63 rfl rfl ?_
    have g3 := h.1
    have h := h.2
    have g4 := h.1
    have h := h.2
    refine u_zald (pc := 22) (dec_at lsk_92 (k := 11) rfl) sx_88 g3 g4 ?_
    have g5 := h.1
    have h := h.2
    refine u_ifF (pc := 23) (tgt := 30) (dec_at lsk_92 (k := 12) rfl) rfl (c0_ne g5) (fun e6 => ?_) (fun e6 => ?_)
    · have h := ifT e6 h
      refine u_ld (v := iV 1) (pc := 26) (dec_at lsk_92 (k := 13) rfl) rfl ?_
      refine u_goto (pc := 27) (tgt := 31) (dec_at lsk_92 (k := 14) rfl) rfl ?_
      refine u_zast (pc := 31) (dec_at lsk_92 (k := 16) rfl) sx_88 g3 g4 (by decide) (fun u7 e8 => ?_)
      have h := h u7 e8
      refine u_ld (v := iV 1) (pc := 32) (dec_at lsk_92 (k := 17) rfl) rfl ?_
      exact u_rZ (pc := 33) (dec_at lsk_92 (k := 18) rfl) rfl (by decide) h
    · have h := ifF e6 h
      refine u_ld (v := iV 0) (pc := 30) (dec_at lsk_92 (k := 15) rfl) rfl ?_
      refine u_zast (pc := 31) (dec_at lsk_92 (k := 16) rfl) sx_88 g3 g4 (by decide) (fun u9 e10 => ?_)
      have h := h u9 e10
      refine u_ld (v := iV 1) (pc := 32) (dec_at lsk_92 (k := 17) rfl) rfl ?_
      exact u_rZ (pc := 33) (dec_at lsk_92 (k := 18) rfl) rfl (by decide) h
  · have h := ifF e2 h
    refine u_ld (v := iV l1) (pc := 34) (dec_at lsk_92 (k := 19) rfl) rfl ?_
    refine u_c (x := 40) (pc := 35) (dec_at lsk_92 (k := 20) rfl) rfl (by decide) ?_
    refine u_icF (pc := 37) (tgt := 61) (dec_at lsk_92 (k := 21) rfl) rfl (ci_ne g1 (by decide)) (fun e11 => ?_) (fun e11 => ?_)
    · have h := ifT e11 h
      refine u_ld (v := .ref 63) (pc := 40) (dec_at lsk_92 (k := 22) rfl) rfl ?_
      refine u_ld (v := .ref 63) (pc := 41) (dec_at lsk_92 (k := 23) rfl) rfl ?_
      refine u_gI (z := 0) (pc := 42) (dec_at lsk_92 (k := 24) rfl) f_6_54 sx_63 rfl rfl ?_
      refine u_ld (v := iV 1) (pc := 45) (dec_at lsk_92 (k := 25) rfl) rfl ?_
      refine u_iadd (pc := 46) (dec_at lsk_92 (k := 26) rfl) ?_
      refine u_c (x := 15) (pc := 47) (dec_at lsk_92 (k := 27) rfl) rfl (by decide) ?_
      have g12 := h.1
      have h := h.2
      refine u_min (pc := 49) (dec_at lsk_92 (k := 28) rfl) m_6_113 g12 (by decide) (Nat.le_of_ble_eq_true rfl) ?_
      refine u_pI (z := 0) (pc := 52) (dec_at lsk_92 (k := 29) rfl) f_6_54 sx_63 rfl rfl rfl rfl (fun u13 e14 => ?_)
      have h := h u13 e14
      refine u_ld (v := .ref 63) (pc := 55) (dec_at lsk_92 (k := 30) rfl) rfl ?_
      refine u_cvV (As := []) (rb := 63) (st2 := []) (pc := 56) (dec_at lsk_92 (k := 31) rfl) m_6_87 (Or.inl rfl) rfl (Nat.le_of_ble_eq_true rfl) sx_63 me_68 rfl ?_ (fun _ h_ => h_)
      refine u_of me_68 (Nat.le_of_ble_eq_true rfl) ?_
      refine u_ld (v := .ref 63) (pc := 0) (dec_at lsk_68 (k := 0) rfl) rfl ?_
      refine u_gS (o := 22) (p := 85) (pc := 1) (dec_at lsk_68 (k := 1) rfl) f_6_38 sx_63 rfl rfl ?_
      refine u_ld (v := .ref 63) (pc := 4) (dec_at lsk_68 (k := 2) rfl) rfl ?_
      refine u_gI (z := 0) (pc := 5) (dec_at lsk_68 (k := 3) rfl) f_6_54 sx_63 rfl rfl ?_
      refine u_ld (v := iV 0) (pc := 8) (dec_at lsk_68 (k := 4) rfl) rfl ?_
      have g15 := h.1
      have h := h.2
      have g16 := h.1
      have h := h.2
      refine u_zast (pc := 9) (dec_at lsk_68 (k := 5) rfl) sx_85 g15 g16 (by decide) (fun u17 e18 => ?_)
      have h := h u17 e18
      refine u_ld (v := .ref 63) (pc := 10) (dec_at lsk_68 (k := 6) rfl) rfl ?_
      refine u_gS (o := 23) (p := 86) (pc := 11) (dec_at lsk_68 (k := 7) rfl) f_6_42 sx_63 rfl rfl ?_
      refine u_ld (v := .ref 63) (pc := 14) (dec_at lsk_68 (k := 8) rfl) rfl ?_
      refine u_gI (z := 0) (pc := 15) (dec_at lsk_68 (k := 9) rfl) f_6_54 sx_63 rfl rfl ?_
      refine u_ld (v := iV 0) (pc := 18) (dec_at lsk_68 (k := 10) rfl) rfl ?_
      have g19 := h.1
      have h := h.2
      have g20 := h.1
      have h := h.2
      refine u_zast (pc := 19) (dec_at lsk_68 (k := 11) rfl) sx_86 g19 g20 (by decide) (fun u21 e22 => ?_)
      have h := h u21 e22
      refine u_ld (v := .ref 63) (pc := 20) (dec_at lsk_68 (k := 12) rfl) rfl ?_
      refine u_gS (o := 24) (p := 87) (pc := 21) (dec_at lsk_68 (k := 13) rfl) f_6_45 sx_63 rfl rfl ?_
      refine u_ld (v := .ref 63) (pc := 24) (dec_at lsk_68 (k := 14) rfl) rfl ?_
      refine u_gI (z := 0) (pc := 25) (dec_at lsk_68 (k := 15) rfl) f_6_54 sx_63 rfl rfl ?_
      refine u_ld (v := iV 0) (pc := 28) (dec_at lsk_68 (k := 16) rfl) rfl ?_
      have g23 := h.1
      have h := h.2
      have g24 := h.1
      have h := h.2
      refine u_zast (pc := 29) (dec_at lsk_68 (k := 17) rfl) sx_87 g23 g24 (by decide) (fun u25 e26 => ?_)
      have h := h u25 e26
      refine u_ld (v := .ref 63) (pc := 30) (dec_at lsk_68 (k := 18) rfl) rfl ?_
      refine u_gS (o := 25) (p := 88) (pc := 31) (dec_at lsk_68 (k := 19) rfl) f_6_48 sx_63 rfl rfl ?_
      refine u_ld (v := .ref 63) (pc := 34) (dec_at lsk_68 (k := 20) rfl) rfl ?_
      refine u_gI (z := 0) (pc := 35) (dec_at lsk_68 (k := 21) rfl) f_6_54 sx_63 rfl rfl ?_
      refine u_ld (v := iV 0) (pc := 38) (dec_at lsk_68 (k := 22) rfl) rfl ?_
      have g27 := h.1
      have h := h.2
      have g28 := h.1
      have h := h.2
      refine u_zast (pc := 39) (dec_at lsk_68 (k := 23) rfl) sx_88 g27 g28 (by decide) (fun u29 e30 => ?_)
      have h := h u29 e30
      refine u_ld (v := .ref 63) (pc := 40) (dec_at lsk_68 (k := 24) rfl) rfl ?_
      refine u_ld (v := iV 0) (pc := 41) (dec_at lsk_68 (k := 25) rfl) rfl ?_
      refine u_pZ (z := 13) (pc := 42) (dec_at lsk_68 (k := 26) rfl) f_6_110 sx_63 rfl rfl rfl rfl (by decide) (fun u31 e32 => ?_)
      have h := h u31 e32
      refine u_rV (pc := 45) (dec_at lsk_68 (k := 27) rfl) rfl ?_
      refine u_ld (v := iV 1) (pc := 59) (dec_at lsk_92 (k := 32) rfl) rfl ?_
      exact u_rZ (pc := 60) (dec_at lsk_92 (k := 33) rfl) rfl (by decide) h
    · have h := ifF e11 h
      refine u_ld (v := iV l1) (pc := 61) (dec_at lsk_92 (k := 34) rfl) rfl ?_
      refine u_c (x := 46) (pc := 62) (dec_at lsk_92 (k := 35) rfl) rfl (by decide) ?_
      refine u_icF (pc := 64) (tgt := 77) (dec_at lsk_92 (k := 36) rfl) rfl (ci_ne g1 (by decide)) (fun e33 => ?_) (fun e33 => ?_)
      · have h := ifT e33 h
        refine u_ld (v := .ref 63) (pc := 67) (dec_at lsk_92 (k := 37) rfl) rfl ?_
        refine u_gS (o := 17) (p := 80) (pc := 68) (dec_at lsk_92 (k := 38) rfl) f_6_25 sx_63 rfl rfl ?_
        refine u_cvV (As := []) (rb := 80) (st2 := []) (pc := 71) (dec_at lsk_92 (k := 39) rfl) m_6_119 (Or.inl rfl) rfl (Nat.le_of_ble_eq_true rfl) sx_80 me_94 rfl h (fun u34 h => ?_)
        refine u_goto (pc := 74) (tgt := 104) (dec_at lsk_92 (k := 40) rfl) rfl ?_
        refine u_ld (v := .ref 63) (pc := 104) (dec_at lsk_92 (k := 53) rfl) rfl ?_
        refine u_ld (v := iV 1) (pc := 105) (dec_at lsk_92 (k := 54) rfl) rfl ?_
        refine u_pZ (z := 13) (pc := 106) (dec_at lsk_92 (k := 55) rfl) f_6_110 sx_63 rfl rfl rfl rfl (by decide) (fun u35 e36 => ?_)
        have h := h u35 e36
        refine u_ld (v := iV 1) (pc := 109) (dec_at lsk_92 (k := 56) rfl) rfl ?_
        exact u_rZ (pc := 110) (dec_at lsk_92 (k := 57) rfl) rfl (by decide) h
      · have h := ifF e33 h
        refine u_ld (v := iV l1) (pc := 77) (dec_at lsk_92 (k := 41) rfl) rfl ?_
        refine u_c (x := 48) (pc := 78) (dec_at lsk_92 (k := 42) rfl) rfl (by decide) ?_
        refine u_icF (pc := 80) (tgt := 93) (dec_at lsk_92 (k := 43) rfl) rfl (ci_ne g1 (by decide)) (fun e37 => ?_) (fun e37 => ?_)
        · have h := ifT e37 h
          refine u_ld (v := .ref 63) (pc := 83) (dec_at lsk_92 (k := 44) rfl) rfl ?_
          refine u_gS (o := 17) (p := 80) (pc := 84) (dec_at lsk_92 (k := 45) rfl) f_6_25 sx_63 rfl rfl ?_
          refine u_cvV (As := []) (rb := 80) (st2 := []) (pc := 87) (dec_at lsk_92 (k := 46) rfl) m_6_122 (Or.inl rfl) rfl (Nat.le_of_ble_eq_true rfl) sx_80 me_95 rfl h (fun u38 h => ?_)
          refine u_goto (pc := 90) (tgt := 104) (dec_at lsk_92 (k := 47) rfl) rfl ?_
          refine u_ld (v := .ref 63) (pc := 104) (dec_at lsk_92 (k := 53) rfl) rfl ?_
          refine u_ld (v := iV 1) (pc := 105) (dec_at lsk_92 (k := 54) rfl) rfl ?_
          refine u_pZ (z := 13) (pc := 106) (dec_at lsk_92 (k := 55) rfl) f_6_110 sx_63 rfl rfl rfl rfl (by decide) (fun u39 e40 => ?_)
          have h := h u39 e40
          refine u_ld (v := iV 1) (pc := 109) (dec_at lsk_92 (k := 56) rfl) rfl ?_
          exact u_rZ (pc := 110) (dec_at lsk_92 (k := 57) rfl) rfl (by decide) h
        · have h := ifF e37 h
          refine u_ld (v := .ref 63) (pc := 93) (dec_at lsk_92 (k := 48) rfl) rfl ?_
          refine u_gS (o := 17) (p := 80) (pc := 94) (dec_at lsk_92 (k := 49) rfl) f_6_25 sx_63 rfl rfl ?_
          refine u_ld (v := iV l1) (pc := 97) (dec_at lsk_92 (k := 50) rfl) rfl ?_
          refine u_csI (As := [iV l1]) (st2 := [.ref 80]) (pc := 98) (dec_at lsk_92 (k := 51) rfl) m_6_125 (Or.inr rfl) rfl (Nat.le_of_ble_eq_true rfl) ?_ (fun _ _ h_ => h_)
          refine u_of me_24 (Nat.le_of_ble_eq_true rfl) ?_
          refine u_ld (v := iV l1) (pc := 0) (dec_at lsk_24 (k := 0) rfl) rfl ?_
          refine u_c (x := 97) (pc := 1) (dec_at lsk_24 (k := 1) rfl) rfl (by decide) ?_
          refine u_isub (pc := 3) (dec_at lsk_24 (k := 2) rfl) ?_
          refine u_rI (pc := 4) (dec_at lsk_24 (k := 3) rfl) rfl ?_
          refine u_cvV (As := [iV (l1 - 97)]) (rb := 80) (st2 := []) (pc := 101) (dec_at lsk_92 (k := 52) rfl) m_6_128 (Or.inl rfl) rfl (Nat.le_of_ble_eq_true rfl) sx_80 me_96 rfl h (fun u41 h => ?_)
          refine u_ld (v := .ref 63) (pc := 104) (dec_at lsk_92 (k := 53) rfl) rfl ?_
          refine u_ld (v := iV 1) (pc := 105) (dec_at lsk_92 (k := 54) rfl) rfl ?_
          refine u_pZ (z := 13) (pc := 106) (dec_at lsk_92 (k := 55) rfl) f_6_110 sx_63 rfl rfl rfl rfl (by decide) (fun u42 e43 => ?_)
          have h := h u42 e43
          refine u_ld (v := iV 1) (pc := 109) (dec_at lsk_92 (k := 56) rfl) rfl ?_
          exact u_rZ (pc := 110) (dec_at lsk_92 (k := 57) rfl) rfl (by decide) h
