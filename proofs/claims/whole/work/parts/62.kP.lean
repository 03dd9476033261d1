/-! Conditions (wip/tools/gen_k.py) -/
/-- method 45 -/
def K_45p (d pc : Nat) (lv : ev_L) (st : List Value) (u : uS) (Q : uS → Prop) : Prop := okU d 2 4 false none prog_3_method_10_code (qV Q) pc lv st u
theorem e_45p {d : Nat} {Q : uS → Prop} {u : uS} {a : Nat} (hOa : isO a 2) (h : ∀ u1 : uS, u1 = wr u a 6 0 → (∀ u3 : uS, u3 = fil u1 (a + 6) 0 10 0 → (K_45p (d + 2) 15 [.ref a, iV 1, .retAddr 0, .retAddr 0] [] u3 Q))) : cV (d + 3) 45 [.ref a] u Q := by
  refine u_of me_45 (Nat.le_of_ble_eq_true rfl) ?_
  refine u_ld (v := .ref a) (pc := 0) (dec_at lsk_45 (k := 0) rfl) rfl ?_
  refine u_ld (v := iV 0) (pc := 1) (dec_at lsk_45 (k := 1) rfl) rfl ?_
  refine u_pI (z := 6) (pc := 2) (dec_at lsk_45 (k := 2) rfl) f_2_66 hOa rfl rfl rfl rfl (fun u1 e2 => ?_)
  have h := h u1 e2
  refine u_ld (v := .ref a) (pc := 5) (dec_at lsk_45 (k := 3) rfl) rfl ?_
  refine u_gS (o := 6) (p := a + 6) (pc := 6) (dec_at lsk_45 (k := 4) rfl) f_2_28 hOa rfl rfl ?_
  refine u_ld (v := iV 0) (pc := 9) (dec_at lsk_45 (k := 5) rfl) rfl ?_
  refine u_csV (As := [.ref (a + 6), iV 0]) (st2 := []) (pc := 10) (dec_at lsk_45 (k := 6) rfl) m_2_69 (Or.inl rfl) rfl (Nat.le_of_ble_eq_true rfl) (q_30 (sa_2_10 hOa)) (fun u3 e4 => ?_)
  have h := h u3 e4
  refine u_ld (v := iV 1) (pc := 13) (dec_at lsk_45 (k := 7) rfl) rfl ?_
  refine u_sto (lv' := [.ref a, iV 1, .retAddr 0, .retAddr 0]) (pc := 14) (dec_at lsk_45 (k := 8) rfl) rfl ?_
  exact h
theorem k_45_15p {d : Nat} {Q : uS → Prop} {u : uS} {a : Nat} {l1 : Int} (hOa : isO a 2) (h : (rI l1) ∧ ((rI (u.1 a 0)) ∧ (if u.1 a 0 < l1 then (Q u) else (K_45p (d + 2) 30 [.ref a, iV l1, iV (u.1 a 6), iV 0] [] u Q)))) : K_45p (d + 2) 15 [.ref a, iV l1, .retAddr 0, .retAddr 0] [] u Q := by
  unfold K_45p
  refine u_ld (v := iV l1) (pc := 15) (dec_at lsk_45 (k := 9) rfl) rfl ?_
  refine u_ld (v := .ref a) (pc := 16) (dec_at lsk_45 (k := 10) rfl) rfl ?_
  refine u_gI (z := 0) (pc := 17) (dec_at lsk_45 (k := 11) rfl) f_2_37 hOa rfl rfl ?_
  have g1 := h.1
  have h := h.2
  have g2 := h.1
  have h := h.2
  refine u_icT (pc := 20) (tgt := 102) (dec_at lsk_45 (k := 12) rfl) rfl (ci_gt g1 g2) (fun e3 => ?_) (fun e3 => ?_)
  · have h := ifT e3 h
    exact u_rV (pc := 102) (dec_at lsk_45 (k := 58) rfl) rfl h
  · have h := ifF e3 h
    refine u_ld (v := .ref a) (pc := 23) (dec_at lsk_45 (k := 13) rfl) rfl ?_
    refine u_gI (z := 6) (pc := 24) (dec_at lsk_45 (k := 14) rfl) f_2_66 hOa rfl rfl ?_
    refine u_sto (lv' := [.ref a, iV l1, iV (u.1 a 6), .retAddr 0]) (pc := 27) (dec_at lsk_45 (k := 15) rfl) rfl ?_
    refine u_ld (v := iV 0) (pc := 28) (dec_at lsk_45 (k := 16) rfl) rfl ?_
    refine u_sto (lv' := [.ref a, iV l1, iV (u.1 a 6), iV 0]) (pc := 29) (dec_at lsk_45 (k := 17) rfl) rfl ?_
    exact h
theorem k_45_30p {d : Nat} {Q : uS → Prop} {u : uS} {a : Nat} {l1 l2 l3 : Int} (hOa : isO a 2) (h : (rI l3) ∧ ((rI (u.1 a 1)) ∧ (if l3 < u.1 a 1 then ((0 ≤ l3) ∧ ((l3 < 30) ∧ ((0 ≤ u.1 (a + 2) l3) ∧ ((u.1 (a + 2) l3 < 10) ∧ ((rI (u.1 (a + 6) (u.1 (a + 2) l3))) ∧ (if u.1 (a + 6) (u.1 (a + 2) l3) = 0 then ((gR u a l3) ∧ (if b2 (wth l2 (row u a l3)) = 0 then (K_45p (d + 2) 30 [.ref a, iV l1, iV l2, iV (l3 + 1)] [] u Q) else (∀ u12 : uS, u12 = wr u (a + 6) (u.1 (a + 2) l3) l1 → (∀ u14 : uS, u14 = wr u12 a 6 (ior (u12.1 a 6) (ishl 1 (u12.1 (a + 2) l3))) → (K_45p (d + 2) 30 [.ref a, iV l1, iV l2, iV (l3 + 1)] [] u14 Q))))) else (K_45p (d + 2) 30 [.ref a, iV l1, iV l2, iV (l3 + 1)] [] u Q))))))) else (K_45p (d + 2) 15 [.ref a, iV (l1 + 1), .retAddr 0, .retAddr 0] [] u Q)))) : K_45p (d + 2) 30 [.ref a, iV l1, iV l2, iV l3] [] u Q := by
  unfold K_45p
  refine u_ld (v := iV l3) (pc := 30) (dec_at lsk_45 (k := 18) rfl) rfl ?_
  refine u_ld (v := .ref a) (pc := 31) (dec_at lsk_45 (k := 19) rfl) rfl ?_
  refine u_gI (z := 1) (pc := 32) (dec_at lsk_45 (k := 20) rfl) f_2_41 hOa rfl rfl ?_
  have g1 := h.1
  have h := h.2
  have g2 := h.1
  have h := h.2
  refine u_icF (pc := 35) (tgt := 96) (dec_at lsk_45 (k := 21) rfl) rfl (ci_ge g1 g2) (fun e3 => ?_) (fun e3 => ?_)
  · have h := ifT e3 h
    refine u_ld (v := .ref a) (pc := 38) (dec_at lsk_45 (k := 22) rfl) rfl ?_
    refine u_gS (o := 6) (p := a + 6) (pc := 39) (dec_at lsk_45 (k := 23) rfl) f_2_28 hOa rfl rfl ?_
    refine u_ld (v := .ref a) (pc := 42) (dec_at lsk_45 (k := 24) rfl) rfl ?_
    refine u_gS (o := 2) (p := a + 2) (pc := 43) (dec_at lsk_45 (k := 25) rfl) f_2_15 hOa rfl rfl ?_
    refine u_ld (v := iV l3) (pc := 46) (dec_at lsk_45 (k := 26) rfl) rfl ?_
    have g4 := h.1
    have h := h.2
    have g5 := h.1
    have h := h.2
    refine u_iald (pc := 47) (dec_at lsk_45 (k := 27) rfl) (sa_2_3 hOa) g4 g5 ?_
    have g6 := h.1
    have h := h.2
    have g7 := h.1
    have h := h.2
    refine u_iald (pc := 48) (dec_at lsk_45 (k := 28) rfl) (sa_2_10 hOa) g6 g7 ?_
    have g8 := h.1
    have h := h.2
    refine u_ifF (pc := 49) (tgt := 90) (dec_at lsk_45 (k := 29) rfl) rfl (c0_ne g8) (fun e9 => ?_) (fun e9 => ?_)
    · have h := ifT e9 h
      refine u_ld (v := .ref a) (pc := 52) (dec_at lsk_45 (k := 30) rfl) rfl ?_
      refine u_ld (v := iV l3) (pc := 53) (dec_at lsk_45 (k := 31) rfl) rfl ?_
      refine u_ld (v := iV l2) (pc := 54) (dec_at lsk_45 (k := 32) rfl) rfl ?_
      have g10 := h.1
      have h := h.2
      refine u_cvI (As := [iV l3, iV l2]) (rb := a) (st2 := []) (pc := 55) (dec_at lsk_45 (k := 33) rfl) m_2_75 (Or.inl rfl) rfl (Nat.le_of_ble_eq_true rfl) hOa me_46 rfl (p_46 hOa g10) (fun r_ u_ h_ => ?_)
      rw [h_.1, h_.2]
      refine u_ifT (pc := 58) (tgt := 90) (dec_at lsk_45 (k := 34) rfl) rfl (c0_eq (ri_b2 _)) (fun e11 => ?_) (fun e11 => ?_)
      · have h := ifT e11 h
        refine u_inc (lv' := [.ref a, iV l1, iV l2, iV (l3 + 1)]) (pc := 90) (dec_at lsk_45 (k := 54) rfl) rfl (by decide) rfl ?_
        refine u_goto (pc := 93) (tgt := 30) (dec_at lsk_45 (k := 55) rfl) rfl ?_
        exact h
      · have h := ifF e11 h
        refine u_ld (v := .ref a) (pc := 61) (dec_at lsk_45 (k := 35) rfl) rfl ?_
        refine u_gS (o := 6) (p := a + 6) (pc := 62) (dec_at lsk_45 (k := 36) rfl) f_2_28 hOa rfl rfl ?_
        refine u_ld (v := .ref a) (pc := 65) (dec_at lsk_45 (k := 37) rfl) rfl ?_
        refine u_gS (o := 2) (p := a + 2) (pc := 66) (dec_at lsk_45 (k := 38) rfl) f_2_15 hOa rfl rfl ?_
        refine u_ld (v := iV l3) (pc := 69) (dec_at lsk_45 (k := 39) rfl) rfl ?_
        refine u_iald (pc := 70) (dec_at lsk_45 (k := 40) rfl) (sa_2_3 hOa) g4 g5 ?_
        refine u_ld (v := iV l1) (pc := 71) (dec_at lsk_45 (k := 41) rfl) rfl ?_
        refine u_iast (pc := 72) (dec_at lsk_45 (k := 42) rfl) (sa_2_10 hOa) g6 g7 (fun u12 e13 => ?_)
        have h := h u12 e13
        refine u_ld (v := .ref a) (pc := 73) (dec_at lsk_45 (k := 43) rfl) rfl ?_
        refine u_ld (v := .ref a) (pc := 74) (dec_at lsk_45 (k := 44) rfl) rfl ?_
        refine u_gI (z := 6) (pc := 75) (dec_at lsk_45 (k := 45) rfl) f_2_66 hOa rfl rfl ?_
        refine u_ld (v := iV 1) (pc := 78) (dec_at lsk_45 (k := 46) rfl) rfl ?_
        refine u_ld (v := .ref a) (pc := 79) (dec_at lsk_45 (k := 47) rfl) rfl ?_
        refine u_gS (o := 2) (p := a + 2) (pc := 80) (dec_at lsk_45 (k := 48) rfl) f_2_15 hOa rfl rfl ?_
        refine u_ld (v := iV l3) (pc := 83) (dec_at lsk_45 (k := 49) rfl) rfl ?_
        refine u_iald (pc := 84) (dec_at lsk_45 (k := 50) rfl) (sa_2_3 hOa) g4 g5 ?_
        refine u_ishl (pc := 85) (dec_at lsk_45 (k := 51) rfl) ?_
        refine u_ior (pc := 86) (dec_at lsk_45 (k := 52) rfl) ?_
        refine u_pI (z := 6) (pc := 87) (dec_at lsk_45 (k := 53) rfl) f_2_66 hOa rfl rfl rfl rfl (fun u14 e15 => ?_)
        have h := h u14 e15
        refine u_inc (lv' := [.ref a, iV l1, iV l2, iV (l3 + 1)]) (pc := 90) (dec_at lsk_45 (k := 54) rfl) rfl (by decide) rfl ?_
        refine u_goto (pc := 93) (tgt := 30) (dec_at lsk_45 (k := 55) rfl) rfl ?_
        exact h
    · have h := ifF e9 h
      refine u_inc (lv' := [.ref a, iV l1, iV l2, iV (l3 + 1)]) (pc := 90) (dec_at lsk_45 (k := 54) rfl) rfl (by decide) rfl ?_
      refine u_goto (pc := 93) (tgt := 30) (dec_at lsk_45 (k := 55) rfl) rfl ?_
      exact h
  · have h := ifF e3 h
    refine u_inc (lv' := [.ref a, iV (l1 + 1), iV l2, iV l3]) (pc := 96) (dec_at lsk_45 (k := 56) rfl) rfl (by decide) rfl ?_
    refine u_goto (pc := 99) (tgt := 15) (dec_at lsk_45 (k := 57) rfl) rfl ?_
    exact u_weak (sbK (sbK (sbD (sbD sb0)))) h
/-- method 53 -/
def K_53p (d pc : Nat) (lv : ev_L) (st : List Value) (u : uS) (Q : uS → Prop) : Prop := okU d 2 3 false none prog_3_method_14_code (qV Q) pc lv st u
theorem e_53p {d : Nat} {Q : uS → Prop} {u : uS} {a : Nat} (hOa : isO a 2) (h : ∀ u1 : uS, u1 = wr u a 7 (iand (u.1 a 6) 1) → (K_53p (d + 2) 12 [.ref a, iV 0, .retAddr 0] [] u1 Q)) : cV (d + 3) 53 [.ref a] u Q := by
  refine u_of me_53 (Nat.le_of_ble_eq_true rfl) ?_
  refine u_ld (v := .ref a) (pc := 0) (dec_at lsk_53 (k := 0) rfl) rfl ?_
  refine u_ld (v := .ref a) (pc := 1) (dec_at lsk_53 (k := 1) rfl) rfl ?_
  refine u_gI (z := 6) (pc := 2) (dec_at lsk_53 (k := 2) rfl) f_2_66 hOa rfl rfl ?_
  refine u_ld (v := iV 1) (pc := 5) (dec_at lsk_53 (k := 3) rfl) rfl ?_
  refine u_iand (pc := 6) (dec_at lsk_53 (k := 4) rfl) ?_
  refine u_pI (z := 7) (pc := 7) (dec_at lsk_53 (k := 5) rfl) f_2_104 hOa rfl rfl rfl rfl (fun u1 e2 => ?_)
  have h := h u1 e2
  refine u_ld (v := iV 0) (pc := 10) (dec_at lsk_53 (k := 6) rfl) rfl ?_
  refine u_sto (lv' := [.ref a, iV 0, .retAddr 0]) (pc := 11) (dec_at lsk_53 (k := 7) rfl) rfl ?_
  exact h
theorem k_53_12p {d : Nat} {Q : uS → Prop} {u : uS} {a : Nat} {l1 : Int} (hOa : isO a 2) (h : (rI l1) ∧ ((rI (u.1 a 0)) ∧ (if l1 < u.1 a 0 then (K_53p (d + 2) 22 [.ref a, iV l1, iV 0] [] u Q) else (Q u)))) : K_53p (d + 2) 12 [.ref a, iV l1, .retAddr 0] [] u Q := by
  unfold K_53p
  refine u_ld (v := iV l1) (pc := 12) (dec_at lsk_53 (k := 8) rfl) rfl ?_
  refine u_ld (v := .ref a) (pc := 13) (dec_at lsk_53 (k := 9) rfl) rfl ?_
  refine u_gI (z := 0) (pc := 14) (dec_at lsk_53 (k := 10) rfl) f_2_37 hOa rfl rfl ?_
  have g1 := h.1
  have h := h.2
  have g2 := h.1
  have h := h.2
  refine u_icF (pc := 17) (tgt := 85) (dec_at lsk_53 (k := 11) rfl) rfl (ci_ge g1 g2) (fun e3 => ?_) (fun e3 => ?_)
  · have h := ifT e3 h
    refine u_ld (v := iV 0) (pc := 20) (dec_at lsk_53 (k := 12) rfl) rfl ?_
    refine u_sto (lv' := [.ref a, iV l1, iV 0]) (pc := 21) (dec_at lsk_53 (k := 13) rfl) rfl ?_
    exact h
  · have h := ifF e3 h
    exact u_rV (pc := 85) (dec_at lsk_53 (k := 45) rfl) rfl h
theorem k_53_22p {d : Nat} {Q : uS → Prop} {u : uS} {a : Nat} {l1 l2 : Int} (hOa : isO a 2) (h : (rI l2) ∧ ((rI (u.1 a 1)) ∧ (if l2 < u.1 a 1 then ((0 ≤ l2) ∧ ((l2 < 30) ∧ (if iand (iushr (u.1 a 7) (u.1 (a + 2) l2)) 1 = 1 then ((gR u a l2) ∧ (if b2 (wth (u.1 a 6) (row u a l2)) = 0 then (K_53p (d + 2) 22 [.ref a, iV l1, iV (l2 + 1)] [] u Q) else (∀ u9 : uS, u9 = wr u a 7 (ior (u.1 a 7) (vrs 0 (row u a l2))) → (K_53p (d + 2) 22 [.ref a, iV l1, iV (l2 + 1)] [] u9 Q)))) else (K_53p (d + 2) 22 [.ref a, iV l1, iV (l2 + 1)] [] u Q)))) else (K_53p (d + 2) 12 [.ref a, iV (l1 + 1), .retAddr 0] [] u Q)))) : K_53p (d + 2) 22 [.ref a, iV l1, iV l2] [] u Q := by
  unfold K_53p
  refine u_ld (v := iV l2) (pc := 22) (dec_at lsk_53 (k := 14) rfl) rfl ?_
  refine u_ld (v := .ref a) (pc := 23) (dec_at lsk_53 (k := 15) rfl) rfl ?_
  refine u_gI (z := 1) (pc := 24) (dec_at lsk_53 (k := 16) rfl) f_2_41 hOa rfl rfl ?_
  have g1 := h.1
  have h := h.2
  have g2 := h.1
  have h := h.2
  refine u_icF (pc := 27) (tgt := 79) (dec_at lsk_53 (k := 17) rfl) rfl (ci_ge g1 g2) (fun e3 => ?_) (fun e3 => ?_)
  · have h := ifT e3 h
    refine u_ld (v := .ref a) (pc := 30) (dec_at lsk_53 (k := 18) rfl) rfl ?_
    refine u_gI (z := 7) (pc := 31) (dec_at lsk_53 (k := 19) rfl) f_2_104 hOa rfl rfl ?_
    refine u_ld (v := .ref a) (pc := 34) (dec_at lsk_53 (k := 20) rfl) rfl ?_
    refine u_gS (o := 2) (p := a + 2) (pc := 35) (dec_at lsk_53 (k := 21) rfl) f_2_15 hOa rfl rfl ?_
    refine u_ld (v := iV l2) (pc := 38) (dec_at lsk_53 (k := 22) rfl) rfl ?_
    have g4 := h.1
    have h := h.2
    have g5 := h.1
    have h := h.2
    refine u_iald (pc := 39) (dec_at lsk_53 (k := 23) rfl) (sa_2_3 hOa) g4 g5 ?_
    refine u_csI (As := [iV (u.1 a 7), iV (u.1 (a + 2) l2)]) (st2 := []) (pc := 40) (dec_at lsk_53 (k := 24) rfl) m_2_83 (Or.inr rfl) rfl (Nat.le_of_ble_eq_true rfl) ?_ (fun _ _ h_ => h_)
    refine u_of me_47 (Nat.le_of_ble_eq_true rfl) ?_
    refine u_ld (v := iV (u.1 a 7)) (pc := 0) (dec_at lsk_47 (k := 0) rfl) rfl ?_
    refine u_ld (v := iV (u.1 (a + 2) l2)) (pc := 1) (dec_at lsk_47 (k := 1) rfl) rfl ?_
    refine u_iushr (pc := 2) (dec_at lsk_47 (k := 2) rfl) ?_
    refine u_ld (v := iV 1) (pc := 3) (dec_at lsk_47 (k := 3) rfl) rfl ?_
    refine u_iand (pc := 4) (dec_at lsk_47 (k := 4) rfl) ?_
    refine u_rI (pc := 5) (dec_at lsk_47 (k := 5) rfl) rfl ?_
    refine u_ld (v := iV 1) (pc := 43) (dec_at lsk_53 (k := 25) rfl) rfl ?_
    refine u_icF (pc := 44) (tgt := 73) (dec_at lsk_53 (k := 26) rfl) rfl (ci_ne (ri_toInt _) (by decide)) (fun e6 => ?_) (fun e6 => ?_)
    · have h := ifT e6 h
      refine u_ld (v := .ref a) (pc := 47) (dec_at lsk_53 (k := 27) rfl) rfl ?_
      refine u_ld (v := iV l2) (pc := 48) (dec_at lsk_53 (k := 28) rfl) rfl ?_
      refine u_ld (v := .ref a) (pc := 49) (dec_at lsk_53 (k := 29) rfl) rfl ?_
      refine u_gI (z := 6) (pc := 50) (dec_at lsk_53 (k := 30) rfl) f_2_66 hOa rfl rfl ?_
      have g7 := h.1
      have h := h.2
      refine u_cvI (As := [iV l2, iV (u.1 a 6)]) (rb := a) (st2 := []) (pc := 53) (dec_at lsk_53 (k := 31) rfl) m_2_75 (Or.inl rfl) rfl (Nat.le_of_ble_eq_true rfl) hOa me_46 rfl (p_46 hOa g7) (fun r_ u_ h_ => ?_)
      rw [h_.1, h_.2]
      refine u_ifT (pc := 56) (tgt := 73) (dec_at lsk_53 (k := 32) rfl) rfl (c0_eq (ri_b2 _)) (fun e8 => ?_) (fun e8 => ?_)
      · have h := ifT e8 h
        refine u_inc (lv' := [.ref a, iV l1, iV (l2 + 1)]) (pc := 73) (dec_at lsk_53 (k := 41) rfl) rfl (by decide) rfl ?_
        refine u_goto (pc := 76) (tgt := 22) (dec_at lsk_53 (k := 42) rfl) rfl ?_
        exact h
      · have h := ifF e8 h
        refine u_ld (v := .ref a) (pc := 59) (dec_at lsk_53 (k := 33) rfl) rfl ?_
        refine u_ld (v := .ref a) (pc := 60) (dec_at lsk_53 (k := 34) rfl) rfl ?_
        refine u_gI (z := 7) (pc := 61) (dec_at lsk_53 (k := 35) rfl) f_2_104 hOa rfl rfl ?_
        refine u_ld (v := .ref a) (pc := 64) (dec_at lsk_53 (k := 36) rfl) rfl ?_
        refine u_ld (v := iV l2) (pc := 65) (dec_at lsk_53 (k := 37) rfl) rfl ?_
        refine u_cvI (As := [iV l2]) (rb := a) (st2 := [iV (u.1 a 7), .ref a]) (pc := 66) (dec_at lsk_53 (k := 38) rfl) m_2_107 (Or.inl rfl) rfl (Nat.le_of_ble_eq_true rfl) hOa me_54 rfl (p_54 hOa g7) (fun r_ u_ h_ => ?_)
        rw [h_.1, h_.2]
        refine u_ior (pc := 69) (dec_at lsk_53 (k := 39) rfl) ?_
        refine u_pI (z := 7) (pc := 70) (dec_at lsk_53 (k := 40) rfl) f_2_104 hOa rfl rfl rfl rfl (fun u9 e10 => ?_)
        have h := h u9 e10
        refine u_inc (lv' := [.ref a, iV l1, iV (l2 + 1)]) (pc := 73) (dec_at lsk_53 (k := 41) rfl) rfl (by decide) rfl ?_
        refine u_goto (pc := 76) (tgt := 22) (dec_at lsk_53 (k := 42) rfl) rfl ?_
        exact h
    · have h := ifF e6 h
      refine u_inc (lv' := [.ref a, iV l1, iV (l2 + 1)]) (pc := 73) (dec_at lsk_53 (k := 41) rfl) rfl (by decide) rfl ?_
      refine u_goto (pc := 76) (tgt := 22) (dec_at lsk_53 (k := 42) rfl) rfl ?_
      exact h
  · have h := ifF e3 h
    refine u_inc (lv' := [.ref a, iV (l1 + 1), iV l2]) (pc := 79) (dec_at lsk_53 (k := 43) rfl) rfl (by decide) rfl ?_
    refine u_goto (pc := 82) (tgt := 12) (dec_at lsk_53 (k := 44) rfl) rfl ?_
    exact u_weak (sbK (sbK (sbD sb0))) h
/-- method 55 -/
def K_55p (d pc : Nat) (lv : ev_L) (st : List Value) (u : uS) (Q : uS → Prop) : Prop := okU d 2 5 false none prog_3_method_16_code (qV Q) pc lv st u
theorem e_55p {d : Nat} {Q : uS → Prop} {u : uS} {a : Nat} (hOa : isO a 2) (h : cI (d + 4) 56 [.ref a] u (fun r2 u1 => ∀ u3 : uS, u3 = fil u1 (a + 7) 0 10 0 → (∀ u5 : uS, u5 = fil u3 (a + 8) 0 10 0 → (K_55p (d + 4) 23 [.ref a, iV r2, iV 0, .retAddr 0, .retAddr 0] [] u5 Q)))) : cV (d + 5) 55 [.ref a] u Q := by
  refine u_of me_55 (Nat.le_of_ble_eq_true rfl) ?_
  refine u_ld (v := .ref a) (pc := 0) (dec_at lsk_55 (k := 0) rfl) rfl ?_
  refine u_cvI (As := []) (rb := a) (st2 := []) (pc := 1) (dec_at lsk_55 (k := 1) rfl) m_2_111 (Or.inl rfl) rfl (Nat.le_of_ble_eq_true rfl) hOa me_56 rfl h (fun r2 u1 h => ?_)
  refine u_sto (lv' := [.ref a, iV r2, .retAddr 0, .retAddr 0, .retAddr 0]) (pc := 4) (dec_at lsk_55 (k := 2) rfl) rfl ?_
  refine u_ld (v := .ref a) (pc := 5) (dec_at lsk_55 (k := 3) rfl) rfl ?_
  refine u_gS (o := 7) (p := a + 7) (pc := 6) (dec_at lsk_55 (k := 4) rfl) f_2_31 hOa rfl rfl ?_
  refine u_ld (v := iV 0) (pc := 9) (dec_at lsk_55 (k := 5) rfl) rfl ?_
  refine u_csV (As := [.ref (a + 7), iV 0]) (st2 := []) (pc := 10) (dec_at lsk_55 (k := 6) rfl) m_2_69 (Or.inl rfl) rfl (Nat.le_of_ble_eq_true rfl) (q_30 (sa_2_11 hOa)) (fun u3 e4 => ?_)
  have h := h u3 e4
  refine u_ld (v := .ref a) (pc := 13) (dec_at lsk_55 (k := 7) rfl) rfl ?_
  refine u_gS (o := 8) (p := a + 8) (pc := 14) (dec_at lsk_55 (k := 8) rfl) f_2_34 hOa rfl rfl ?_
  refine u_ld (v := iV 0) (pc := 17) (dec_at lsk_55 (k := 9) rfl) rfl ?_
  refine u_csV (As := [.ref (a + 8), iV 0]) (st2 := []) (pc := 18) (dec_at lsk_55 (k := 10) rfl) m_2_69 (Or.inl rfl) rfl (Nat.le_of_ble_eq_true rfl) (q_30 (sa_2_12 hOa)) (fun u5 e6 => ?_)
  have h := h u5 e6
  refine u_ld (v := iV 0) (pc := 21) (dec_at lsk_55 (k := 11) rfl) rfl ?_
  refine u_sto (lv' := [.ref a, iV r2, iV 0, .retAddr 0, .retAddr 0]) (pc := 22) (dec_at lsk_55 (k := 12) rfl) rfl ?_
  exact h
theorem k_55_23p {d : Nat} {Q : uS → Prop} {u : uS} {a : Nat} {l1 l2 : Int} (hOa : isO a 2) (h : (rI l2) ∧ ((rI (u.1 a 1)) ∧ (if l2 < u.1 a 1 then ((gR u a l2) ∧ (if b2 (wth (u.1 a 6) (row u a l2)) = 0 then (K_55p (d + 4) 23 [.ref a, iV l1, iV (l2 + 1), .retAddr 0, .retAddr 0] [] u Q) else ((0 ≤ l2) ∧ ((l2 < 30) ∧ ((0 ≤ u.1 (a + 2) l2) ∧ ((u.1 (a + 2) l2 < 10) ∧ (∀ u10 : uS, u10 = wr u (a + 7) (u.1 (a + 2) l2) (ior (u.1 (a + 7) (u.1 (a + 2) l2)) (vrs 0 (row u a l2))) → ((0 ≤ u10.1 (a + 2) l2) ∧ ((u10.1 (a + 2) l2 < 10) ∧ ((gR u10 a l2) ∧ (∀ u15 : uS, u15 = wr u10 (a + 8) (u10.1 (a + 2) l2) (ior (u10.1 (a + 8) (u10.1 (a + 2) l2)) (grw l1 (lts l1 0 (row u10 a l2)) 0 (row u10 a l2))) → (K_55p (d + 4) 23 [.ref a, iV l1, iV (l2 + 1), .retAddr 0, .retAddr 0] [] u15 Q)))))))))))) else (cV (d + 4) 60 [.ref (a + 7), iV (u.1 a 0)] u (fun u17 => K_55p (d + 4) 103 [.ref a, .retAddr 0, iV 0, iV 0, .retAddr 0] [] u17 Q))))) : K_55p (d + 4) 23 [.ref a, iV l1, iV l2, .retAddr 0, .retAddr 0] [] u Q := by
  unfold K_55p
  refine u_ld (v := iV l2) (pc := 23) (dec_at lsk_55 (k := 13) rfl) rfl ?_
  refine u_ld (v := .ref a) (pc := 24) (dec_at lsk_55 (k := 14) rfl) rfl ?_
  refine u_gI (z := 1) (pc := 25) (dec_at lsk_55 (k := 15) rfl) f_2_41 hOa rfl rfl ?_
  have g1 := h.1
  have h := h.2
  have g2 := h.1
  have h := h.2
  refine u_icF (pc := 28) (tgt := 88) (dec_at lsk_55 (k := 16) rfl) rfl (ci_ge g1 g2) (fun e3 => ?_) (fun e3 => ?_)
  · have h := ifT e3 h
    refine u_ld (v := .ref a) (pc := 31) (dec_at lsk_55 (k := 17) rfl) rfl ?_
    refine u_ld (v := iV l2) (pc := 32) (dec_at lsk_55 (k := 18) rfl) rfl ?_
    refine u_ld (v := .ref a) (pc := 33) (dec_at lsk_55 (k := 19) rfl) rfl ?_
    refine u_gI (z := 6) (pc := 34) (dec_at lsk_55 (k := 20) rfl) f_2_66 hOa rfl rfl ?_
    have g4 := h.1
    have h := h.2
    refine u_cvI (As := [iV l2, iV (u.1 a 6)]) (rb := a) (st2 := []) (pc := 37) (dec_at lsk_55 (k := 21) rfl) m_2_75 (Or.inl rfl) rfl (Nat.le_of_ble_eq_true rfl) hOa me_46 rfl (p_46 hOa g4) (fun r_ u_ h_ => ?_)
    rw [h_.1, h_.2]
    refine u_ifT (pc := 40) (tgt := 82) (dec_at lsk_55 (k := 22) rfl) rfl (c0_eq (ri_b2 _)) (fun e5 => ?_) (fun e5 => ?_)
    · have h := ifT e5 h
      refine u_inc (lv' := [.ref a, iV l1, iV (l2 + 1), .retAddr 0, .retAddr 0]) (pc := 82) (dec_at lsk_55 (k := 50) rfl) rfl (by decide) rfl ?_
      refine u_goto (pc := 85) (tgt := 23) (dec_at lsk_55 (k := 51) rfl) rfl ?_
      exact h
    · have h := ifF e5 h
      refine u_ld (v := .ref a) (pc := 43) (dec_at lsk_55 (k := 23) rfl) rfl ?_
      refine u_gS (o := 7) (p := a + 7) (pc := 44) (dec_at lsk_55 (k := 24) rfl) f_2_31 hOa rfl rfl ?_
      refine u_ld (v := .ref a) (pc := 47) (dec_at lsk_55 (k := 25) rfl) rfl ?_
      refine u_gS (o := 2) (p := a + 2) (pc := 48) (dec_at lsk_55 (k := 26) rfl) f_2_15 hOa rfl rfl ?_
      refine u_ld (v := iV l2) (pc := 51) (dec_at lsk_55 (k := 27) rfl) rfl ?_
      have g6 := h.1
      have h := h.2
      have g7 := h.1
      have h := h.2
      refine u_iald (pc := 52) (dec_at lsk_55 (k := 28) rfl) (sa_2_3 hOa) g6 g7 ?_
      refine u_st (st' := [iV (u.1 (a + 2) l2), .ref (a + 7), iV (u.1 (a + 2) l2), .ref (a + 7)]) (pc := 53) (dec_at lsk_55 (k := 29) rfl) rfl ?_
      have g8 := h.1
      have h := h.2
      have g9 := h.1
      have h := h.2
      refine u_iald (pc := 54) (dec_at lsk_55 (k := 30) rfl) (sa_2_11 hOa) g8 g9 ?_
      refine u_ld (v := .ref a) (pc := 55) (dec_at lsk_55 (k := 31) rfl) rfl ?_
      refine u_ld (v := iV l2) (pc := 56) (dec_at lsk_55 (k := 32) rfl) rfl ?_
      refine u_cvI (As := [iV l2]) (rb := a) (st2 := [iV (u.1 (a + 7) (u.1 (a + 2) l2)), iV (u.1 (a + 2) l2), .ref (a + 7)]) (pc := 57) (dec_at lsk_55 (k := 33) rfl) m_2_107 (Or.inl rfl) rfl (Nat.le_of_ble_eq_true rfl) hOa me_54 rfl (p_54 hOa g4) (fun r_ u_ h_ => ?_)
      rw [h_.1, h_.2]
      refine u_ior (pc := 60) (dec_at lsk_55 (k := 34) rfl) ?_
      refine u_iast (pc := 61) (dec_at lsk_55 (k := 35) rfl) (sa_2_11 hOa) g8 g9 (fun u10 e11 => ?_)
      have h := h u10 e11
      refine u_ld (v := .ref a) (pc := 62) (dec_at lsk_55 (k := 36) rfl) rfl ?_
      refine u_gS (o := 8) (p := a + 8) (pc := 63) (dec_at lsk_55 (k := 37) rfl) f_2_34 hOa rfl rfl ?_
      refine u_ld (v := .ref a) (pc := 66) (dec_at lsk_55 (k := 38) rfl) rfl ?_
      refine u_gS (o := 2) (p := a + 2) (pc := 67) (dec_at lsk_55 (k := 39) rfl) f_2_15 hOa rfl rfl ?_
      refine u_ld (v := iV l2) (pc := 70) (dec_at lsk_55 (k := 40) rfl) rfl ?_
      refine u_iald (pc := 71) (dec_at lsk_55 (k := 41) rfl) (sa_2_3 hOa) g6 g7 ?_
      refine u_st (st' := [iV (u10.1 (a + 2) l2), .ref (a + 8), iV (u10.1 (a + 2) l2), .ref (a + 8)]) (pc := 72) (dec_at lsk_55 (k := 42) rfl) rfl ?_
      have g12 := h.1
      have h := h.2
      have g13 := h.1
      have h := h.2
      refine u_iald (pc := 73) (dec_at lsk_55 (k := 43) rfl) (sa_2_12 hOa) g12 g13 ?_
      refine u_ld (v := .ref a) (pc := 74) (dec_at lsk_55 (k := 44) rfl) rfl ?_
      refine u_ld (v := iV l2) (pc := 75) (dec_at lsk_55 (k := 45) rfl) rfl ?_
      refine u_ld (v := iV l1) (pc := 76) (dec_at lsk_55 (k := 46) rfl) rfl ?_
      have g14 := h.1
      have h := h.2
      refine u_cvI (As := [iV l2, iV l1]) (rb := a) (st2 := [iV (u10.1 (a + 8) (u10.1 (a + 2) l2)), iV (u10.1 (a + 2) l2), .ref (a + 8)]) (pc := 77) (dec_at lsk_55 (k := 47) rfl) m_2_115 (Or.inl rfl) rfl (Nat.le_of_ble_eq_true rfl) hOa me_59 rfl (p_59 hOa g14) (fun r_ u_ h_ => ?_)
      rw [h_.1, h_.2]
      refine u_ior (pc := 80) (dec_at lsk_55 (k := 48) rfl) ?_
      refine u_iast (pc := 81) (dec_at lsk_55 (k := 49) rfl) (sa_2_12 hOa) g12 g13 (fun u15 e16 => ?_)
      have h := h u15 e16
      refine u_inc (lv' := [.ref a, iV l1, iV (l2 + 1), .retAddr 0, .retAddr 0]) (pc := 82) (dec_at lsk_55 (k := 50) rfl) rfl (by decide) rfl ?_
      refine u_goto (pc := 85) (tgt := 23) (dec_at lsk_55 (k := 51) rfl) rfl ?_
      exact h
  · have h := ifF e3 h
    refine u_ld (v := .ref a) (pc := 88) (dec_at lsk_55 (k := 52) rfl) rfl ?_
    refine u_gS (o := 7) (p := a + 7) (pc := 89) (dec_at lsk_55 (k := 53) rfl) f_2_31 hOa rfl rfl ?_
    refine u_ld (v := .ref a) (pc := 92) (dec_at lsk_55 (k := 54) rfl) rfl ?_
    refine u_gI (z := 0) (pc := 93) (dec_at lsk_55 (k := 55) rfl) f_2_37 hOa rfl rfl ?_
    refine u_csV (As := [.ref (a + 7), iV (u.1 a 0)]) (st2 := []) (pc := 96) (dec_at lsk_55 (k := 56) rfl) m_2_118 (Or.inr rfl) rfl (Nat.le_of_ble_eq_true rfl) h (fun u17 h => ?_)
    refine u_ld (v := iV 0) (pc := 99) (dec_at lsk_55 (k := 57) rfl) rfl ?_
    refine u_sto (lv' := [.ref a, iV l1, iV 0, .retAddr 0, .retAddr 0]) (pc := 100) (dec_at lsk_55 (k := 58) rfl) rfl ?_
    refine u_ld (v := iV 0) (pc := 101) (dec_at lsk_55 (k := 59) rfl) rfl ?_
    refine u_sto (lv' := [.ref a, iV l1, iV 0, iV 0, .retAddr 0]) (pc := 102) (dec_at lsk_55 (k := 60) rfl) rfl ?_
    exact u_weak (sbK (sbD (sbK (sbK (sbK sb0))))) h
theorem k_55_103p {d : Nat} {Q : uS → Prop} {u : uS} {a : Nat} {l2 l3 : Int} (hOa : isO a 2) (h : (rI l3) ∧ ((rI (u.1 a 0)) ∧ (if l3 < u.1 a 0 then (K_55p (d + 4) 114 [.ref a, .retAddr 0, iV l2, iV l3, iV 0] [] u Q) else (∀ u4 : uS, u4 = wr u a 8 0 → (K_55p (d + 4) 184 [.ref a, .retAddr 0, iV l2, iV 0, .retAddr 0] [] u4 Q))))) : K_55p (d + 4) 103 [.ref a, .retAddr 0, iV l2, iV l3, .retAddr 0] [] u Q := by
  unfold K_55p
  refine u_ld (v := iV l3) (pc := 103) (dec_at lsk_55 (k := 61) rfl) rfl ?_
  refine u_ld (v := .ref a) (pc := 104) (dec_at lsk_55 (k := 62) rfl) rfl ?_
  refine u_gI (z := 0) (pc := 105) (dec_at lsk_55 (k := 63) rfl) f_2_37 hOa rfl rfl ?_
  have g1 := h.1
  have h := h.2
  have g2 := h.1
  have h := h.2
  refine u_icF (pc := 108) (tgt := 177) (dec_at lsk_55 (k := 64) rfl) rfl (ci_ge g1 g2) (fun e3 => ?_) (fun e3 => ?_)
  · have h := ifT e3 h
    refine u_ld (v := iV 0) (pc := 111) (dec_at lsk_55 (k := 65) rfl) rfl ?_
    refine u_sto (lv' := [.ref a, .retAddr 0, iV l2, iV l3, iV 0]) (pc := 112) (dec_at lsk_55 (k := 66) rfl) rfl ?_
    exact h
  · have h := ifF e3 h
    refine u_ld (v := .ref a) (pc := 177) (dec_at lsk_55 (k := 100) rfl) rfl ?_
    refine u_ld (v := iV 0) (pc := 178) (dec_at lsk_55 (k := 101) rfl) rfl ?_
    refine u_pI (z := 8) (pc := 179) (dec_at lsk_55 (k := 102) rfl) f_2_121 hOa rfl rfl rfl rfl (fun u4 e5 => ?_)
    have h := h u4 e5
    refine u_ld (v := iV 0) (pc := 182) (dec_at lsk_55 (k := 103) rfl) rfl ?_
    refine u_sto (lv' := [.ref a, .retAddr 0, iV l2, iV 0, .retAddr 0]) (pc := 183) (dec_at lsk_55 (k := 104) rfl) rfl ?_
    exact h
theorem k_55_114p {d : Nat} {Q : uS → Prop} {u : uS} {a : Nat} {l2 l3 l4 : Int} (hOa : isO a 2) (h : (rI l4) ∧ ((rI (u.1 a 0)) ∧ (if l4 < u.1 a 0 then ((0 ≤ l3) ∧ ((l3 < 10) ∧ (if iand (iushr (u.1 (a + 8) l3) l4) 1 = 1 then ((rI l3) ∧ (if l3 = l4 then (K_55p (d + 4) 114 [.ref a, .retAddr 0, iV (ior l2 (ishl 1 l3)), iV l3, iV (l4 + 1)] [] u Q) else ((0 ≤ l4) ∧ ((l4 < 10) ∧ (if iand (iushr (u.1 (a + 7) l4) l3) 1 = 1 then (K_55p (d + 4) 114 [.ref a, .retAddr 0, iV (ior l2 (ishl 1 l3)), iV l3, iV (l4 + 1)] [] u Q) else (K_55p (d + 4) 114 [.ref a, .retAddr 0, iV l2, iV l3, iV (l4 + 1)] [] u Q)))))) else (K_55p (d + 4) 114 [.ref a, .retAddr 0, iV l2, iV l3, iV (l4 + 1)] [] u Q)))) else (K_55p (d + 4) 103 [.ref a, .retAddr 0, iV l2, iV (l3 + 1), .retAddr 0] [] u Q)))) : K_55p (d + 4) 114 [.ref a, .retAddr 0, iV l2, iV l3, iV l4] [] u Q := by
  unfold K_55p
  refine u_ld (v := iV l4) (pc := 114) (dec_at lsk_55 (k := 67) rfl) rfl ?_
  refine u_ld (v := .ref a) (pc := 116) (dec_at lsk_55 (k := 68) rfl) rfl ?_
  refine u_gI (z := 0) (pc := 117) (dec_at lsk_55 (k := 69) rfl) f_2_37 hOa rfl rfl ?_
  have g1 := h.1
  have h := h.2
  have g2 := h.1
  have h := h.2
  refine u_icF (pc := 120) (tgt := 171) (dec_at lsk_55 (k := 70) rfl) rfl (ci_ge g1 g2) (fun e3 => ?_) (fun e3 => ?_)
  · have h := ifT e3 h
    refine u_ld (v := .ref a) (pc := 123) (dec_at lsk_55 (k := 71) rfl) rfl ?_
    refine u_gS (o := 8) (p := a + 8) (pc := 124) (dec_at lsk_55 (k := 72) rfl) f_2_34 hOa rfl rfl ?_
    refine u_ld (v := iV l3) (pc := 127) (dec_at lsk_55 (k := 73) rfl) rfl ?_
    have g4 := h.1
    have h := h.2
    have g5 := h.1
    have h := h.2
    refine u_iald (pc := 128) (dec_at lsk_55 (k := 74) rfl) (sa_2_12 hOa) g4 g5 ?_
    refine u_ld (v := iV l4) (pc := 129) (dec_at lsk_55 (k := 75) rfl) rfl ?_
    refine u_csI (As := [iV (u.1 (a + 8) l3), iV l4]) (st2 := []) (pc := 131) (dec_at lsk_55 (k := 76) rfl) m_2_83 (Or.inr rfl) rfl (Nat.le_of_ble_eq_true rfl) ?_ (fun _ _ h_ => h_)
    refine u_of me_47 (Nat.le_of_ble_eq_true rfl) ?_
    refine u_ld (v := iV (u.1 (a + 8) l3)) (pc := 0) (dec_at lsk_47 (k := 0) rfl) rfl ?_
    refine u_ld (v := iV l4) (pc := 1) (dec_at lsk_47 (k := 1) rfl) rfl ?_
    refine u_iushr (pc := 2) (dec_at lsk_47 (k := 2) rfl) ?_
    refine u_ld (v := iV 1) (pc := 3) (dec_at lsk_47 (k := 3) rfl) rfl ?_
    refine u_iand (pc := 4) (dec_at lsk_47 (k := 4) rfl) ?_
    refine u_rI (pc := 5) (dec_at lsk_47 (k := 5) rfl) rfl ?_
    refine u_ld (v := iV 1) (pc := 134) (dec_at lsk_55 (k := 77) rfl) rfl ?_
    refine u_icF (pc := 135) (tgt := 165) (dec_at lsk_55 (k := 78) rfl) rfl (ci_ne (ri_toInt _) (by decide)) (fun e6 => ?_) (fun e6 => ?_)
    · have h := ifT e6 h
      refine u_ld (v := iV l3) (pc := 138) (dec_at lsk_55 (k := 79) rfl) rfl ?_
      refine u_ld (v := iV l4) (pc := 139) (dec_at lsk_55 (k := 80) rfl) rfl ?_
      have g7 := h.1
      have h := h.2
      refine u_icT (pc := 141) (tgt := 159) (dec_at lsk_55 (k := 81) rfl) rfl (ci_eq g7 g1) (fun e8 => ?_) (fun e8 => ?_)
      · have h := ifT e8 h
        refine u_ld (v := iV l2) (pc := 159) (dec_at lsk_55 (k := 90) rfl) rfl ?_
        refine u_ld (v := iV 1) (pc := 160) (dec_at lsk_55 (k := 91) rfl) rfl ?_
        refine u_ld (v := iV l3) (pc := 161) (dec_at lsk_55 (k := 92) rfl) rfl ?_
        refine u_ishl (pc := 162) (dec_at lsk_55 (k := 93) rfl) ?_
        refine u_ior (pc := 163) (dec_at lsk_55 (k := 94) rfl) ?_
        refine u_sto (lv' := [.ref a, .retAddr 0, iV (ior l2 (ishl 1 l3)), iV l3, iV l4]) (pc := 164) (dec_at lsk_55 (k := 95) rfl) rfl ?_
        refine u_inc (lv' := [.ref a, .retAddr 0, iV (ior l2 (ishl 1 l3)), iV l3, iV (l4 + 1)]) (pc := 165) (dec_at lsk_55 (k := 96) rfl) rfl (by decide) rfl ?_
        refine u_goto (pc := 168) (tgt := 114) (dec_at lsk_55 (k := 97) rfl) rfl ?_
        exact h
      · have h := ifF e8 h
        refine u_ld (v := .ref a) (pc := 144) (dec_at lsk_55 (k := 82) rfl) rfl ?_
        refine u_gS (o := 7) (p := a + 7) (pc := 145) (dec_at lsk_55 (k := 83) rfl) f_2_31 hOa rfl rfl ?_
        refine u_ld (v := iV l4) (pc := 148) (dec_at lsk_55 (k := 84) rfl) rfl ?_
        have g9 := h.1
        have h := h.2
        have g10 := h.1
        have h := h.2
        refine u_iald (pc := 150) (dec_at lsk_55 (k := 85) rfl) (sa_2_11 hOa) g9 g10 ?_
        refine u_ld (v := iV l3) (pc := 151) (dec_at lsk_55 (k := 86) rfl) rfl ?_
        refine u_csI (As := [iV (u.1 (a + 7) l4), iV l3]) (st2 := []) (pc := 152) (dec_at lsk_55 (k := 87) rfl) m_2_83 (Or.inr rfl) rfl (Nat.le_of_ble_eq_true rfl) ?_ (fun _ _ h_ => h_)
        refine u_of me_47 (Nat.le_of_ble_eq_true rfl) ?_
        refine u_ld (v := iV (u.1 (a + 7) l4)) (pc := 0) (dec_at lsk_47 (k := 0) rfl) rfl ?_
        refine u_ld (v := iV l3) (pc := 1) (dec_at lsk_47 (k := 1) rfl) rfl ?_
        refine u_iushr (pc := 2) (dec_at lsk_47 (k := 2) rfl) ?_
        refine u_ld (v := iV 1) (pc := 3) (dec_at lsk_47 (k := 3) rfl) rfl ?_
        refine u_iand (pc := 4) (dec_at lsk_47 (k := 4) rfl) ?_
        refine u_rI (pc := 5) (dec_at lsk_47 (k := 5) rfl) rfl ?_
        refine u_ld (v := iV 1) (pc := 155) (dec_at lsk_55 (k := 88) rfl) rfl ?_
        refine u_icF (pc := 156) (tgt := 165) (dec_at lsk_55 (k := 89) rfl) rfl (ci_ne (ri_toInt _) (by decide)) (fun e11 => ?_) (fun e11 => ?_)
        · have h := ifT e11 h
          refine u_ld (v := iV l2) (pc := 159) (dec_at lsk_55 (k := 90) rfl) rfl ?_
          refine u_ld (v := iV 1) (pc := 160) (dec_at lsk_55 (k := 91) rfl) rfl ?_
          refine u_ld (v := iV l3) (pc := 161) (dec_at lsk_55 (k := 92) rfl) rfl ?_
          refine u_ishl (pc := 162) (dec_at lsk_55 (k := 93) rfl) ?_
          refine u_ior (pc := 163) (dec_at lsk_55 (k := 94) rfl) ?_
          refine u_sto (lv' := [.ref a, .retAddr 0, iV (ior l2 (ishl 1 l3)), iV l3, iV l4]) (pc := 164) (dec_at lsk_55 (k := 95) rfl) rfl ?_
          refine u_inc (lv' := [.ref a, .retAddr 0, iV (ior l2 (ishl 1 l3)), iV l3, iV (l4 + 1)]) (pc := 165) (dec_at lsk_55 (k := 96) rfl) rfl (by decide) rfl ?_
          refine u_goto (pc := 168) (tgt := 114) (dec_at lsk_55 (k := 97) rfl) rfl ?_
          exact h
        · have h := ifF e11 h
          refine u_inc (lv' := [.ref a, .retAddr 0, iV l2, iV l3, iV (l4 + 1)]) (pc := 165) (dec_at lsk_55 (k := 96) rfl) rfl (by decide) rfl ?_
          refine u_goto (pc := 168) (tgt := 114) (dec_at lsk_55 (k := 97) rfl) rfl ?_
          exact h
    · have h := ifF e6 h
      refine u_inc (lv' := [.ref a, .retAddr 0, iV l2, iV l3, iV (l4 + 1)]) (pc := 165) (dec_at lsk_55 (k := 96) rfl) rfl (by decide) rfl ?_
      refine u_goto (pc := 168) (tgt := 114) (dec_at lsk_55 (k := 97) rfl) rfl ?_
      exact h
  · have h := ifF e3 h
    refine u_inc (lv' := [.ref a, .retAddr 0, iV l2, iV (l3 + 1), iV l4]) (pc := 171) (dec_at lsk_55 (k := 98) rfl) rfl (by decide) rfl ?_
    refine u_goto (pc := 174) (tgt := 103) (dec_at lsk_55 (k := 99) rfl) rfl ?_
    exact u_weak (sbK (sbK (sbK (sbK (sbD sb0))))) h
theorem k_55_184p {d : Nat} {Q : uS → Prop} {u : uS} {a : Nat} {l2 l3 : Int} (hOa : isO a 2) (h : (rI l3) ∧ ((rI (u.1 a 0)) ∧ (if l3 < u.1 a 0 then ((0 ≤ l3) ∧ ((l3 < 10) ∧ (if iand (ior (u.1 (a + 7) l3) (ishl 1 l3)) l2 = 0 then (K_55p (d + 4) 184 [.ref a, .retAddr 0, iV l2, iV (l3 + 1), .retAddr 0] [] u Q) else (∀ u7 : uS, u7 = wr u a 8 (ior (u.1 a 8) (ishl 1 l3)) → (K_55p (d + 4) 184 [.ref a, .retAddr 0, iV l2, iV (l3 + 1), .retAddr 0] [] u7 Q))))) else (Q u)))) : K_55p (d + 4) 184 [.ref a, .retAddr 0, iV l2, iV l3, .retAddr 0] [] u Q := by
  unfold K_55p
  refine u_ld (v := iV l3) (pc := 184) (dec_at lsk_55 (k := 105) rfl) rfl ?_
  refine u_ld (v := .ref a) (pc := 185) (dec_at lsk_55 (k := 106) rfl) rfl ?_
  refine u_gI (z := 0) (pc := 186) (dec_at lsk_55 (k := 107) rfl) f_2_37 hOa rfl rfl ?_
  have g1 := h.1
  have h := h.2
  have g2 := h.1
  have h := h.2
  refine u_icF (pc := 189) (tgt := 225) (dec_at lsk_55 (k := 108) rfl) rfl (ci_ge g1 g2) (fun e3 => ?_) (fun e3 => ?_)
  · have h := ifT e3 h
    refine u_ld (v := .ref a) (pc := 192) (dec_at lsk_55 (k := 109) rfl) rfl ?_
    refine u_gS (o := 7) (p := a + 7) (pc := 193) (dec_at lsk_55 (k := 110) rfl) f_2_31 hOa rfl rfl ?_
    refine u_ld (v := iV l3) (pc := 196) (dec_at lsk_55 (k := 111) rfl) rfl ?_
    have g4 := h.1
    have h := h.2
    have g5 := h.1
    have h := h.2
    refine u_iald (pc := 197) (dec_at lsk_55 (k := 112) rfl) (sa_2_11 hOa) g4 g5 ?_
    refine u_ld (v := iV 1) (pc := 198) (dec_at lsk_55 (k := 113) rfl) rfl ?_
    refine u_ld (v := iV l3) (pc := 199) (dec_at lsk_55 (k := 114) rfl) rfl ?_
    refine u_ishl (pc := 200) (dec_at lsk_55 (k := 115) rfl) ?_
    refine u_ior (pc := 201) (dec_at lsk_55 (k := 116) rfl) ?_
    refine u_ld (v := iV l2) (pc := 202) (dec_at lsk_55 (k := 117) rfl) rfl ?_
    refine u_iand (pc := 203) (dec_at lsk_55 (k := 118) rfl) ?_
    refine u_ifT (pc := 204) (tgt := 219) (dec_at lsk_55 (k := 119) rfl) rfl (c0_eq (ri_toInt _)) (fun e6 => ?_) (fun e6 => ?_)
    · have h := ifT e6 h
      refine u_inc (lv' := [.ref a, .retAddr 0, iV l2, iV (l3 + 1), .retAddr 0]) (pc := 219) (dec_at lsk_55 (k := 128) rfl) rfl (by decide) rfl ?_
      refine u_goto (pc := 222) (tgt := 184) (dec_at lsk_55 (k := 129) rfl) rfl ?_
      exact h
    · have h := ifF e6 h
      refine u_ld (v := .ref a) (pc := 207) (dec_at lsk_55 (k := 120) rfl) rfl ?_
      refine u_ld (v := .ref a) (pc := 208) (dec_at lsk_55 (k := 121) rfl) rfl ?_
      refine u_gI (z := 8) (pc := 209) (dec_at lsk_55 (k := 122) rfl) f_2_121 hOa rfl rfl ?_
      refine u_ld (v := iV 1) (pc := 212) (dec_at lsk_55 (k := 123) rfl) rfl ?_
      refine u_ld (v := iV l3) (pc := 213) (dec_at lsk_55 (k := 124) rfl) rfl ?_
      refine u_ishl (pc := 214) (dec_at lsk_55 (k := 125) rfl) ?_
      refine u_ior (pc := 215) (dec_at lsk_55 (k := 126) rfl) ?_
      refine u_pI (z := 8) (pc := 216) (dec_at lsk_55 (k := 127) rfl) f_2_121 hOa rfl rfl rfl rfl (fun u7 e8 => ?_)
      have h := h u7 e8
      refine u_inc (lv' := [.ref a, .retAddr 0, iV l2, iV (l3 + 1), .retAddr 0]) (pc := 219) (dec_at lsk_55 (k := 128) rfl) rfl (by decide) rfl ?_
      refine u_goto (pc := 222) (tgt := 184) (dec_at lsk_55 (k := 129) rfl) rfl ?_
      exact h
  · have h := ifF e3 h
    exact u_rV (pc := 225) (dec_at lsk_55 (k := 130) rfl) rfl h
/-- method 56 -/
def K_56p (d pc : Nat) (lv : ev_L) (st : List Value) (u : uS) (Q : Int → uS → Prop) : Prop := okU d 2 4 false (some .int) prog_3_method_17_code (qI Q) pc lv st u
theorem e_56p {d : Nat} {Q : Int → uS → Prop} {u : uS} {a : Nat} (hOa : isO a 2) (h : K_56p (d + 3) 4 [.ref a, iV 0, iV 0, .retAddr 0] [] u Q) : cI (d + 4) 56 [.ref a] u Q := by
  refine u_of me_56 (Nat.le_of_ble_eq_true rfl) ?_
  refine u_ld (v := iV 0) (pc := 0) (dec_at lsk_56 (k := 0) rfl) rfl ?_
  refine u_sto (lv' := [.ref a, iV 0, .retAddr 0, .retAddr 0]) (pc := 1) (dec_at lsk_56 (k := 1) rfl) rfl ?_
  refine u_ld (v := iV 0) (pc := 2) (dec_at lsk_56 (k := 2) rfl) rfl ?_
  refine u_sto (lv' := [.ref a, iV 0, iV 0, .retAddr 0]) (pc := 3) (dec_at lsk_56 (k := 3) rfl) rfl ?_
  exact h
theorem k_56_4p {d : Nat} {Q : Int → uS → Prop} {u : uS} {a : Nat} {l1 l2 : Int} (hOa : isO a 2) (h : (rI l2) ∧ ((rI (u.1 a 0)) ∧ (if l2 < u.1 a 0 then (K_56p (d + 3) 14 [.ref a, iV l1, iV l2, iV 0] [] u Q) else (Q l1 u)))) : K_56p (d + 3) 4 [.ref a, iV l1, iV l2, .retAddr 0] [] u Q := by
  unfold K_56p
  refine u_ld (v := iV l2) (pc := 4) (dec_at lsk_56 (k := 4) rfl) rfl ?_
  refine u_ld (v := .ref a) (pc := 5) (dec_at lsk_56 (k := 5) rfl) rfl ?_
  refine u_gI (z := 0) (pc := 6) (dec_at lsk_56 (k := 6) rfl) f_2_37 hOa rfl rfl ?_
  have g1 := h.1
  have h := h.2
  have g2 := h.1
  have h := h.2
  refine u_icF (pc := 9) (tgt := 66) (dec_at lsk_56 (k := 7) rfl) rfl (ci_ge g1 g2) (fun e3 => ?_) (fun e3 => ?_)
  · have h := ifT e3 h
    refine u_ld (v := iV 0) (pc := 12) (dec_at lsk_56 (k := 8) rfl) rfl ?_
    refine u_sto (lv' := [.ref a, iV l1, iV l2, iV 0]) (pc := 13) (dec_at lsk_56 (k := 9) rfl) rfl ?_
    exact h
  · have h := ifF e3 h
    refine u_ld (v := iV l1) (pc := 66) (dec_at lsk_56 (k := 38) rfl) rfl ?_
    exact u_rI (pc := 67) (dec_at lsk_56 (k := 39) rfl) rfl h
theorem k_56_14p {d : Nat} {Q : Int → uS → Prop} {u : uS} {a : Nat} {l1 l2 l3 : Int} (hOa : isO a 2) (h : (rI l3) ∧ ((rI (u.1 a 1)) ∧ (if l3 < u.1 a 1 then ((gR u a l3) ∧ (if b2 (wth (u.1 a 6) (row u a l3)) = 0 then (K_56p (d + 3) 14 [.ref a, iV l1, iV l2, iV (l3 + 1)] [] u Q) else ((rI (lts l1 0 (row u a l3))) ∧ (if 0 < lts l1 0 (row u a l3) then ((0 ≤ l3) ∧ ((l3 < 30) ∧ (K_56p (d + 3) 14 [.ref a, iV (ior l1 (ishl 1 (u.1 (a + 2) l3))), iV l2, iV (l3 + 1)] [] u Q))) else (K_56p (d + 3) 14 [.ref a, iV l1, iV l2, iV (l3 + 1)] [] u Q))))) else (K_56p (d + 3) 4 [.ref a, iV l1, iV (l2 + 1), .retAddr 0] [] u Q)))) : K_56p (d + 3) 14 [.ref a, iV l1, iV l2, iV l3] [] u Q := by
  unfold K_56p
  refine u_ld (v := iV l3) (pc := 14) (dec_at lsk_56 (k := 10) rfl) rfl ?_
  refine u_ld (v := .ref a) (pc := 15) (dec_at lsk_56 (k := 11) rfl) rfl ?_
  refine u_gI (z := 1) (pc := 16) (dec_at lsk_56 (k := 12) rfl) f_2_41 hOa rfl rfl ?_
  have g1 := h.1
  have h := h.2
  have g2 := h.1
  have h := h.2
  refine u_icF (pc := 19) (tgt := 60) (dec_at lsk_56 (k := 13) rfl) rfl (ci_ge g1 g2) (fun e3 => ?_) (fun e3 => ?_)
  · have h := ifT e3 h
    refine u_ld (v := .ref a) (pc := 22) (dec_at lsk_56 (k := 14) rfl) rfl ?_
    refine u_ld (v := iV l3) (pc := 23) (dec_at lsk_56 (k := 15) rfl) rfl ?_
    refine u_ld (v := .ref a) (pc := 24) (dec_at lsk_56 (k := 16) rfl) rfl ?_
    refine u_gI (z := 6) (pc := 25) (dec_at lsk_56 (k := 17) rfl) f_2_66 hOa rfl rfl ?_
    have g4 := h.1
    have h := h.2
    refine u_cvI (As := [iV l3, iV (u.1 a 6)]) (rb := a) (st2 := []) (pc := 28) (dec_at lsk_56 (k := 18) rfl) m_2_75 (Or.inl rfl) rfl (Nat.le_of_ble_eq_true rfl) hOa me_46 rfl (p_46 hOa g4) (fun r_ u_ h_ => ?_)
    rw [h_.1, h_.2]
    refine u_ifT (pc := 31) (tgt := 54) (dec_at lsk_56 (k := 19) rfl) rfl (c0_eq (ri_b2 _)) (fun e5 => ?_) (fun e5 => ?_)
    · have h := ifT e5 h
      refine u_inc (lv' := [.ref a, iV l1, iV l2, iV (l3 + 1)]) (pc := 54) (dec_at lsk_56 (k := 34) rfl) rfl (by decide) rfl ?_
      refine u_goto (pc := 57) (tgt := 14) (dec_at lsk_56 (k := 35) rfl) rfl ?_
      exact h
    · have h := ifF e5 h
      refine u_ld (v := .ref a) (pc := 34) (dec_at lsk_56 (k := 20) rfl) rfl ?_
      refine u_ld (v := iV l3) (pc := 35) (dec_at lsk_56 (k := 21) rfl) rfl ?_
      refine u_ld (v := iV l1) (pc := 36) (dec_at lsk_56 (k := 22) rfl) rfl ?_
      refine u_cvI (As := [iV l3, iV l1]) (rb := a) (st2 := []) (pc := 37) (dec_at lsk_56 (k := 23) rfl) m_2_124 (Or.inl rfl) rfl (Nat.le_of_ble_eq_true rfl) hOa me_57 rfl (p_57 hOa g4) (fun r_ u_ h_ => ?_)
      rw [h_.1, h_.2]
      have g6 := h.1
      have h := h.2
      refine u_ifF (pc := 40) (tgt := 54) (dec_at lsk_56 (k := 24) rfl) rfl (c0_le g6) (fun e7 => ?_) (fun e7 => ?_)
      · have h := ifT e7 h
        refine u_ld (v := iV l1) (pc := 43) (dec_at lsk_56 (k := 25) rfl) rfl ?_
        refine u_ld (v := iV 1) (pc := 44) (dec_at lsk_56 (k := 26) rfl) rfl ?_
        refine u_ld (v := .ref a) (pc := 45) (dec_at lsk_56 (k := 27) rfl) rfl ?_
        refine u_gS (o := 2) (p := a + 2) (pc := 46) (dec_at lsk_56 (k := 28) rfl) f_2_15 hOa rfl rfl ?_
        refine u_ld (v := iV l3) (pc := 49) (dec_at lsk_56 (k := 29) rfl) rfl ?_
        have g8 := h.1
        have h := h.2
        have g9 := h.1
        have h := h.2
        refine u_iald (pc := 50) (dec_at lsk_56 (k := 30) rfl) (sa_2_3 hOa) g8 g9 ?_
        refine u_ishl (pc := 51) (dec_at lsk_56 (k := 31) rfl) ?_
        refine u_ior (pc := 52) (dec_at lsk_56 (k := 32) rfl) ?_
        refine u_sto (lv' := [.ref a, iV (ior l1 (ishl 1 (u.1 (a + 2) l3))), iV l2, iV l3]) (pc := 53) (dec_at lsk_56 (k := 33) rfl) rfl ?_
        refine u_inc (lv' := [.ref a, iV (ior l1 (ishl 1 (u.1 (a + 2) l3))), iV l2, iV (l3 + 1)]) (pc := 54) (dec_at lsk_56 (k := 34) rfl) rfl (by decide) rfl ?_
        refine u_goto (pc := 57) (tgt := 14) (dec_at lsk_56 (k := 35) rfl) rfl ?_
        exact h
      · have h := ifF e7 h
        refine u_inc (lv' := [.ref a, iV l1, iV l2, iV (l3 + 1)]) (pc := 54) (dec_at lsk_56 (k := 34) rfl) rfl (by decide) rfl ?_
        refine u_goto (pc := 57) (tgt := 14) (dec_at lsk_56 (k := 35) rfl) rfl ?_
        exact h
  · have h := ifF e3 h
    refine u_inc (lv' := [.ref a, iV l1, iV (l2 + 1), iV l3]) (pc := 60) (dec_at lsk_56 (k := 36) rfl) rfl (by decide) rfl ?_
    refine u_goto (pc := 63) (tgt := 4) (dec_at lsk_56 (k := 37) rfl) rfl ?_
    exact u_weak (sbK (sbK (sbK (sbD sb0)))) h
