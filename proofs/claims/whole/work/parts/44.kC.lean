/-! Conditions (wip/tools/gen_k.py) -/
/-- method 103 -/
def K_103 (d pc : Nat) (lv : ev_L) (st : List Value) (u : uS) (Q : Int → uS → Prop) : Prop := okU d 4 6 false (some .long) prog_11_method_4_code (qL Q) pc lv st u
theorem e_103 {d : Nat} {Q : Int → uS → Prop} {u : uS} {l1 l2 : Nat} {l3 l4 : Int} (hOl1 : isO l1 2) {nl2 : Nat} (hAl2 : isA l2 0 nl2) (h : (rI (u.1 36 16)) ∧ (if u.1 36 16 = 0 then (cV (d + 1) 104 [.ref 36, .ref l1, .ref l2, iV l3, iV 0] u (fun u3 => K_103 (d + 1) 23 [.ref 36, .retAddr 0, .retAddr 0, .retAddr 0, iV l4, iV ((u3.1 36 2) - 1)] [] u3 Q)) else ((0 ≤ l4) ∧ ((l4 < 10) ∧ (Q (u.1 56 l4) u))))) : cL (d + 2) 103 [.ref 36, .ref l1, .ref l2, iV l3, iV l4] u Q := by
  refine u_of me_103 (Nat.le_of_ble_eq_true rfl) ?_
  refine u_ld (v := .ref 36) (pc := 0) (dec_at lsk_103 (k := 0) rfl) rfl ?_
  refine u_gZ (z := 16) (pc := 1) (dec_at lsk_103 (k := 1) rfl) f_4_56 sx_36 rfl rfl ?_
  have g1 := h.1
  have h := h.2
  refine u_ifF (pc := 4) (tgt := 106) (dec_at lsk_103 (k := 2) rfl) rfl (c0_ne g1) (fun e2 => ?_) (fun e2 => ?_)
  · have h := ifT e2 h
    refine u_ld (v := .ref 36) (pc := 7) (dec_at lsk_103 (k := 3) rfl) rfl ?_
    refine u_ld (v := .ref l1) (pc := 8) (dec_at lsk_103 (k := 4) rfl) rfl ?_
    refine u_ld (v := .ref l2) (pc := 9) (dec_at lsk_103 (k := 5) rfl) rfl ?_
    refine u_ld (v := iV l3) (pc := 10) (dec_at lsk_103 (k := 6) rfl) rfl ?_
    refine u_ld (v := iV 0) (pc := 11) (dec_at lsk_103 (k := 7) rfl) rfl ?_
    refine u_cvV (As := [.ref l1, .ref l2, iV l3, iV 0]) (rb := 36) (st2 := []) (pc := 12) (dec_at lsk_103 (k := 8) rfl) m_4_63 (Or.inl rfl) rfl (Nat.le_of_ble_eq_true rfl) sx_36 me_104 rfl h (fun u3 h => ?_)
    refine u_ld (v := .ref 36) (pc := 15) (dec_at lsk_103 (k := 9) rfl) rfl ?_
    refine u_gI (z := 2) (pc := 16) (dec_at lsk_103 (k := 10) rfl) f_4_67 sx_36 rfl rfl ?_
    refine u_ld (v := iV 1) (pc := 19) (dec_at lsk_103 (k := 11) rfl) rfl ?_
    refine u_isub (pc := 20) (dec_at lsk_103 (k := 12) rfl) ?_
    refine u_sto (lv' := [.ref 36, .ref l1, .ref l2, iV l3, iV l4, iV ((u3.1 36 2) - 1)]) (pc := 21) (dec_at lsk_103 (k := 13) rfl) rfl ?_
    exact u_weak (sbK (sbD (sbD (sbD (sbK (sbK sb0)))))) h
  · have h := ifF e2 h
    refine u_ld (v := .ref 36) (pc := 106) (dec_at lsk_103 (k := 54) rfl) rfl ?_
    refine u_gS (o := 20) (p := 56) (pc := 107) (dec_at lsk_103 (k := 55) rfl) f_4_50 sx_36 rfl rfl ?_
    refine u_ld (v := iV l4) (pc := 110) (dec_at lsk_103 (k := 56) rfl) rfl ?_
    have g4 := h.1
    have h := h.2
    have g5 := h.1
    have h := h.2
    refine u_lald (pc := 112) (dec_at lsk_103 (k := 57) rfl) sx_56 g4 g5 ?_
    exact u_rL (pc := 113) (dec_at lsk_103 (k := 58) rfl) rfl h
theorem k_103_23 {d : Nat} {Q : Int → uS → Prop} {u : uS} {l4 l5 : Int} (h : (rI l5) ∧ (if l5 < 0 then (K_103 (d + 1) 43 [.ref 36, .retAddr 0, .retAddr 0, .retAddr 0, iV l4, iV 0] [] u Q) else (cV (d + 1) 114 [.ref 36, iV l5] u (fun u3 => K_103 (d + 1) 23 [.ref 36, .retAddr 0, .retAddr 0, .retAddr 0, iV l4, iV (l5 + (-1))] [] u3 Q)))) : K_103 (d + 1) 23 [.ref 36, .retAddr 0, .retAddr 0, .retAddr 0, iV l4, iV l5] [] u Q := by
  unfold K_103
  refine u_ld (v := iV l5) (pc := 23) (dec_at lsk_103 (k := 14) rfl) rfl ?_
  have g1 := h.1
  have h := h.2
  refine u_ifT (pc := 25) (tgt := 40) (dec_at lsk_103 (k := 15) rfl) rfl (c0_lt g1) (fun e2 => ?_) (fun e2 => ?_)
  · have h := ifT e2 h
    refine u_ld (v := iV 0) (pc := 40) (dec_at lsk_103 (k := 21) rfl) rfl ?_
    refine u_sto (lv' := [.ref 36, .retAddr 0, .retAddr 0, .retAddr 0, iV l4, iV 0]) (pc := 41) (dec_at lsk_103 (k := 22) rfl) rfl ?_
    exact h
  · have h := ifF e2 h
    refine u_ld (v := .ref 36) (pc := 28) (dec_at lsk_103 (k := 16) rfl) rfl ?_
    refine u_ld (v := iV l5) (pc := 29) (dec_at lsk_103 (k := 17) rfl) rfl ?_
    refine u_cvV (As := [iV l5]) (rb := 36) (st2 := []) (pc := 31) (dec_at lsk_103 (k := 18) rfl) m_4_71 (Or.inl rfl) rfl (Nat.le_of_ble_eq_true rfl) sx_36 me_114 rfl h (fun u3 h => ?_)
    refine u_inc (lv' := [.ref 36, .retAddr 0, .retAddr 0, .retAddr 0, iV l4, iV (l5 + (-1))]) (pc := 34) (dec_at lsk_103 (k := 19) rfl) rfl (by decide) rfl ?_
    refine u_goto (pc := 37) (tgt := 23) (dec_at lsk_103 (k := 20) rfl) rfl ?_
    exact h
theorem k_103_43 {d : Nat} {Q : Int → uS → Prop} {u : uS} {l4 l5 : Int} (h : (isO (u.2 36 0) 2) ∧ ((rI l5) ∧ ((rI (u.1 (u.2 36 0) 0)) ∧ (if l5 < u.1 (u.2 36 0) 0 then ((rI (u.1 36 2)) ∧ (if u.1 36 2 = 0 then ((0 ≤ l5) ∧ ((l5 < 10) ∧ (∀ u9 : uS, u9 = wr u 56 l5 (u.1 47 l5) → (K_103 (d + 1) 43 [.ref 36, .retAddr 0, .retAddr 0, .retAddr 0, iV l4, iV (l5 + 1)] [] u9 Q)))) else ((rI (u.1 36 3)) ∧ (if u.1 36 3 = 0 then ((0 ≤ (((((l5 * 41) + 0) - 0) * 41) + (u.1 36 2)) - 0) ∧ (((((((l5 * 41) + 0) - 0) * 41) + (u.1 36 2)) - 0 < 16810) ∧ ((0 ≤ l5) ∧ ((l5 < 10) ∧ (∀ u17 : uS, u17 = wr u 56 l5 (u.1 51 ((((((l5 * 41) + 0) - 0) * 41) + (u.1 36 2)) - 0)) → (K_103 (d + 1) 43 [.ref 36, .retAddr 0, .retAddr 0, .retAddr 0, iV l4, iV (l5 + 1)] [] u17 Q)))))) else ((0 ≤ (((((l5 * 41) + 0) - 0) * 41) + (u.1 36 2)) - 0) ∧ (((((((l5 * 41) + 0) - 0) * 41) + (u.1 36 2)) - 0 < 16810) ∧ ((0 ≤ l5) ∧ ((l5 < 10) ∧ (∀ u23 : uS, u23 = wr u 56 l5 (u.1 51 ((((((l5 * 41) + 0) - 0) * 41) + (u.1 36 2)) - 0)) → (K_103 (d + 1) 43 [.ref 36, .retAddr 0, .retAddr 0, .retAddr 0, iV l4, iV (l5 + 1)] [] u23 Q)))))))))) else (∀ u25 : uS, u25 = wr u 36 16 1 → ((0 ≤ l4) ∧ ((l4 < 10) ∧ (Q (u25.1 56 l4) u25)))))))) : K_103 (d + 1) 43 [.ref 36, .retAddr 0, .retAddr 0, .retAddr 0, iV l4, iV l5] [] u Q := by
  unfold K_103
  refine u_ld (v := iV l5) (pc := 43) (dec_at lsk_103 (k := 23) rfl) rfl ?_
  refine u_ld (v := .ref 36) (pc := 45) (dec_at lsk_103 (k := 24) rfl) rfl ?_
  refine u_gR (z := 0) (pc := 46) (dec_at lsk_103 (k := 25) rfl) f_4_12 sx_36 rfl rfl ?_
  have g1 := h.1
  have h := h.2
  refine u_gI (z := 0) (pc := 49) (dec_at lsk_103 (k := 26) rfl) f_4_75 g1 rfl rfl ?_
  have g2 := h.1
  have h := h.2
  have g3 := h.1
  have h := h.2
  refine u_icF (pc := 52) (tgt := 101) (dec_at lsk_103 (k := 27) rfl) rfl (ci_ge g2 g3) (fun e4 => ?_) (fun e4 => ?_)
  · have h := ifT e4 h
    refine u_ld (v := .ref 36) (pc := 55) (dec_at lsk_103 (k := 28) rfl) rfl ?_
    refine u_gS (o := 20) (p := 56) (pc := 56) (dec_at lsk_103 (k := 29) rfl) f_4_50 sx_36 rfl rfl ?_
    refine u_ld (v := iV l5) (pc := 59) (dec_at lsk_103 (k := 30) rfl) rfl ?_
    refine u_ld (v := .ref 36) (pc := 61) (dec_at lsk_103 (k := 31) rfl) rfl ?_
    refine u_gI (z := 2) (pc := 62) (dec_at lsk_103 (k := 32) rfl) f_4_67 sx_36 rfl rfl ?_
    have g5 := h.1
    have h := h.2
    refine u_ifF (pc := 65) (tgt := 78) (dec_at lsk_103 (k := 33) rfl) rfl (c0_ne g5) (fun e6 => ?_) (fun e6 => ?_)
    · have h := ifT e6 h
      refine u_ld (v := .ref 36) (pc := 68) (dec_at lsk_103 (k := 34) rfl) rfl ?_
      refine u_gS (o := 11) (p := 47) (pc := 69) (dec_at lsk_103 (k := 35) rfl) f_4_22 sx_36 rfl rfl ?_
      refine u_ld (v := iV l5) (pc := 72) (dec_at lsk_103 (k := 36) rfl) rfl ?_
      have g7 := h.1
      have h := h.2
      have g8 := h.1
      have h := h.2
      refine u_lald (pc := 74) (dec_at lsk_103 (k := 37) rfl) sx_47 g7 g8 ?_
      refine u_goto (pc := 75) (tgt := 94) (dec_at lsk_103 (k := 38) rfl) rfl ?_
      refine u_last (pc := 94) (dec_at lsk_103 (k := 48) rfl) sx_56 g7 g8 (fun u9 e10 => ?_)
      have h := h u9 e10
      refine u_inc (lv' := [.ref 36, .retAddr 0, .retAddr 0, .retAddr 0, iV l4, iV (l5 + 1)]) (pc := 95) (dec_at lsk_103 (k := 49) rfl) rfl (by decide) rfl ?_
      refine u_goto (pc := 98) (tgt := 43) (dec_at lsk_103 (k := 50) rfl) rfl ?_
      exact h
    · have h := ifF e6 h
      refine u_ld (v := .ref 36) (pc := 78) (dec_at lsk_103 (k := 39) rfl) rfl ?_
      refine u_gS (o := 15) (p := 51) (pc := 79) (dec_at lsk_103 (k := 40) rfl) f_4_35 sx_36 rfl rfl ?_
      refine u_ld (v := .ref 36) (pc := 82) (dec_at lsk_103 (k := 41) rfl) rfl ?_
      refine u_ld (v := iV l5) (pc := 83) (dec_at lsk_103 (k := 42) rfl) rfl ?_
      refine u_ld (v := iV 0) (pc := 85) (dec_at lsk_103 (k := 43) rfl) rfl ?_
      refine u_ld (v := .ref 36) (pc := 86) (dec_at lsk_103 (k := 44) rfl) rfl ?_
      refine u_gI (z := 2) (pc := 87) (dec_at lsk_103 (k := 45) rfl) f_4_67 sx_36 rfl rfl ?_
      refine u_cvI (As := [iV l5, iV 0, iV (u.1 36 2)]) (rb := 36) (st2 := [.ref 51, iV l5, .ref 56]) (pc := 90) (dec_at lsk_103 (k := 46) rfl) m_4_78 (Or.inl rfl) rfl (Nat.le_of_ble_eq_true rfl) sx_36 me_118 rfl ?_ (fun _ _ h_ => h_)
      refine u_of me_118 (Nat.le_of_ble_eq_true rfl) ?_
      refine u_ld (v := .ref 36) (pc := 0) (dec_at lsk_118 (k := 0) rfl) rfl ?_
      refine u_gZ (z := 3) (pc := 1) (dec_at lsk_118 (k := 1) rfl) f_4_82 sx_36 rfl rfl ?_
      have g11 := h.1
      have h := h.2
      refine u_ifT (pc := 4) (tgt := 11) (dec_at lsk_118 (k := 2) rfl) rfl (c0_eq g11) (fun e12 => ?_) (fun e12 => ?_)
      · have h := ifT e12 h
        refine u_ld (v := iV 0) (pc := 11) (dec_at lsk_118 (k := 5) rfl) rfl ?_
        refine u_sto (lv' := [.ref 36, iV l5, iV 0, iV (u.1 36 2), iV 0]) (pc := 12) (dec_at lsk_118 (k := 6) rfl) rfl ?_
        refine u_ld (v := iV l5) (pc := 14) (dec_at lsk_118 (k := 7) rfl) rfl ?_
        refine u_c (x := 41) (pc := 15) (dec_at lsk_118 (k := 8) rfl) rfl (by decide) ?_
        refine u_imul (pc := 17) (dec_at lsk_118 (k := 9) rfl) ?_
        refine u_ld (v := iV 0) (pc := 18) (dec_at lsk_118 (k := 10) rfl) rfl ?_
        refine u_iadd (pc := 19) (dec_at lsk_118 (k := 11) rfl) ?_
        refine u_ld (v := iV 0) (pc := 20) (dec_at lsk_118 (k := 12) rfl) rfl ?_
        refine u_isub (pc := 22) (dec_at lsk_118 (k := 13) rfl) ?_
        refine u_c (x := 41) (pc := 23) (dec_at lsk_118 (k := 14) rfl) rfl (by decide) ?_
        refine u_imul (pc := 25) (dec_at lsk_118 (k := 15) rfl) ?_
        refine u_ld (v := iV (u.1 36 2)) (pc := 26) (dec_at lsk_118 (k := 16) rfl) rfl ?_
        refine u_iadd (pc := 27) (dec_at lsk_118 (k := 17) rfl) ?_
        refine u_ld (v := iV 0) (pc := 28) (dec_at lsk_118 (k := 18) rfl) rfl ?_
        refine u_isub (pc := 30) (dec_at lsk_118 (k := 19) rfl) ?_
        refine u_rI (pc := 31) (dec_at lsk_118 (k := 20) rfl) rfl ?_
        have g13 := h.1
        have h := h.2
        have g14 := h.1
        have h := h.2
        refine u_lald (pc := 93) (dec_at lsk_103 (k := 47) rfl) sx_51 g13 g14 ?_
        have g15 := h.1
        have h := h.2
        have g16 := h.1
        have h := h.2
        refine u_last (pc := 94) (dec_at lsk_103 (k := 48) rfl) sx_56 g15 g16 (fun u17 e18 => ?_)
        have h := h u17 e18
        refine u_inc (lv' := [.ref 36, .retAddr 0, .retAddr 0, .retAddr 0, iV l4, iV (l5 + 1)]) (pc := 95) (dec_at lsk_103 (k := 49) rfl) rfl (by decide) rfl ?_
        refine u_goto (pc := 98) (tgt := 43) (dec_at lsk_103 (k := 50) rfl) rfl ?_
        exact h
      · have h := ifF e12 h
        refine u_ld (v := iV 0) (pc := 7) (dec_at lsk_118 (k := 3) rfl) rfl ?_
        refine u_goto (pc := 8) (tgt := 12) (dec_at lsk_118 (k := 4) rfl) rfl ?_
        refine u_sto (lv' := [.ref 36, iV l5, iV 0, iV (u.1 36 2), iV 0]) (pc := 12) (dec_at lsk_118 (k := 6) rfl) rfl ?_
        refine u_ld (v := iV l5) (pc := 14) (dec_at lsk_118 (k := 7) rfl) rfl ?_
        refine u_c (x := 41) (pc := 15) (dec_at lsk_118 (k := 8) rfl) rfl (by decide) ?_
        refine u_imul (pc := 17) (dec_at lsk_118 (k := 9) rfl) ?_
        refine u_ld (v := iV 0) (pc := 18) (dec_at lsk_118 (k := 10) rfl) rfl ?_
        refine u_iadd (pc := 19) (dec_at lsk_118 (k := 11) rfl) ?_
        refine u_ld (v := iV 0) (pc := 20) (dec_at lsk_118 (k := 12) rfl) rfl ?_
        refine u_isub (pc := 22) (dec_at lsk_118 (k := 13) rfl) ?_
        refine u_c (x := 41) (pc := 23) (dec_at lsk_118 (k := 14) rfl) rfl (by decide) ?_
        refine u_imul (pc := 25) (dec_at lsk_118 (k := 15) rfl) ?_
        refine u_ld (v := iV (u.1 36 2)) (pc := 26) (dec_at lsk_118 (k := 16) rfl) rfl ?_
        refine u_iadd (pc := 27) (dec_at lsk_118 (k := 17) rfl) ?_
        refine u_ld (v := iV 0) (pc := 28) (dec_at lsk_118 (k := 18) rfl) rfl ?_
        refine u_isub (pc := 30) (dec_at lsk_118 (k := 19) rfl) ?_
        refine u_rI (pc := 31) (dec_at lsk_118 (k := 20) rfl) rfl ?_
        have g19 := h.1
        have h := h.2
        have g20 := h.1
        have h := h.2
        refine u_lald (pc := 93) (dec_at lsk_103 (k := 47) rfl) sx_51 g19 g20 ?_
        have g21 := h.1
        have h := h.2
        have g22 := h.1
        have h := h.2
        refine u_last (pc := 94) (dec_at lsk_103 (k := 48) rfl) sx_56 g21 g22 (fun u23 e24 => ?_)
        have h := h u23 e24
        refine u_inc (lv' := [.ref 36, .retAddr 0, .retAddr 0, .retAddr 0, iV l4, iV (l5 + 1)]) (pc := 95) (dec_at lsk_103 (k := 49) rfl) rfl (by decide) rfl ?_
        refine u_goto (pc := 98) (tgt := 43) (dec_at lsk_103 (k := 50) rfl) rfl ?_
        exact h
  · have h := ifF e4 h
    refine u_ld (v := .ref 36) (pc := 101) (dec_at lsk_103 (k := 51) rfl) rfl ?_
    refine u_ld (v := iV 1) (pc := 102) (dec_at lsk_103 (k := 52) rfl) rfl ?_
    refine u_pZ (z := 16) (pc := 103) (dec_at lsk_103 (k := 53) rfl) f_4_56 sx_36 rfl rfl rfl rfl (by decide) (fun u25 e26 => ?_)
    have h := h u25 e26
    refine u_ld (v := .ref 36) (pc := 106) (dec_at lsk_103 (k := 54) rfl) rfl ?_
    refine u_gS (o := 20) (p := 56) (pc := 107) (dec_at lsk_103 (k := 55) rfl) f_4_50 sx_36 rfl rfl ?_
    refine u_ld (v := iV l4) (pc := 110) (dec_at lsk_103 (k := 56) rfl) rfl ?_
    have g27 := h.1
    have h := h.2
    have g28 := h.1
    have h := h.2
    refine u_lald (pc := 112) (dec_at lsk_103 (k := 57) rfl) sx_56 g27 g28 ?_
    exact u_rL (pc := 113) (dec_at lsk_103 (k := 58) rfl) rfl h
/-- method 104 -/
def K_104 (d pc : Nat) (lv : ev_L) (st : List Value) (u : uS) (Q : uS → Prop) : Prop := okU d 4 5 false none prog_11_method_6_code (qV Q) pc lv st u
theorem e_104 {d : Nat} {Q : uS → Prop} {u : uS} {l1 l2 : Nat} {l3 l4 : Int} (hOl1 : isO l1 2) {nl2 : Nat} (hAl2 : isA l2 0 nl2) (h : ∀ u1 : uS, u1 = wq u 36 0 l1 → (∀ u3 : uS, u3 = wq u1 36 1 l2 → (∀ u5 : uS, u5 = wr u3 36 2 l3 → ((l4 = 0 ∨ l4 = 1) ∧ (∀ u8 : uS, u8 = wr u5 36 3 l4 → (cV d 105 [.ref 36] u8 (fun u10 => cV d 112 [.ref 36] u10 (fun u11 => cV d 113 [.ref 36] u11 (fun u12 => Q u12))))))))) : cV (d + 1) 104 [.ref 36, .ref l1, .ref l2, iV l3, iV l4] u Q := by
  refine u_of me_104 (Nat.le_of_ble_eq_true rfl) ?_
  refine u_ld (v := .ref 36) (pc := 0) (dec_at lsk_104 (k := 0) rfl) rfl ?_
  refine u_ld (v := .ref l1) (pc := 1) (dec_at lsk_104 (k := 1) rfl) rfl ?_
  refine u_pR (z := 0) (pc := 2) (dec_at lsk_104 (k := 2) rfl) f_4_12 sx_36 rfl rfl rfl rfl rfl (fun u1 e2 => ?_)
  have h := h u1 e2
  refine u_ld (v := .ref 36) (pc := 5) (dec_at lsk_104 (k := 3) rfl) rfl ?_
  refine u_ld (v := .ref l2) (pc := 6) (dec_at lsk_104 (k := 4) rfl) rfl ?_
  refine u_pR (z := 1) (pc := 7) (dec_at lsk_104 (k := 5) rfl) f_4_18 sx_36 rfl rfl rfl rfl rfl (fun u3 e4 => ?_)
  have h := h u3 e4
  refine u_ld (v := .ref 36) (pc := 10) (dec_at lsk_104 (k := 6) rfl) rfl ?_
  refine u_ld (v := iV l3) (pc := 11) (dec_at lsk_104 (k := 7) rfl) rfl ?_
  refine u_pI (z := 2) (pc := 12) (dec_at lsk_104 (k := 8) rfl) f_4_67 sx_36 rfl rfl rfl rfl (fun u5 e6 => ?_)
  have h := h u5 e6
  refine u_ld (v := .ref 36) (pc := 15) (dec_at lsk_104 (k := 9) rfl) rfl ?_
  refine u_ld (v := iV l4) (pc := 16) (dec_at lsk_104 (k := 10) rfl) rfl ?_
  have g7 := h.1
  have h := h.2
  refine u_pZ (z := 3) (pc := 18) (dec_at lsk_104 (k := 11) rfl) f_4_82 sx_36 rfl rfl rfl rfl g7 (fun u8 e9 => ?_)
  have h := h u8 e9
  refine u_ld (v := .ref 36) (pc := 21) (dec_at lsk_104 (k := 12) rfl) rfl ?_
  refine u_cvV (As := []) (rb := 36) (st2 := []) (pc := 22) (dec_at lsk_104 (k := 13) rfl) m_4_85 (Or.inl rfl) rfl (Nat.le_of_ble_eq_true rfl) sx_36 me_105 rfl h (fun u10 h => ?_)
  refine u_ld (v := .ref 36) (pc := 25) (dec_at lsk_104 (k := 14) rfl) rfl ?_
  refine u_cvV (As := []) (rb := 36) (st2 := []) (pc := 26) (dec_at lsk_104 (k := 15) rfl) m_4_88 (Or.inl rfl) rfl (Nat.le_of_ble_eq_true rfl) sx_36 me_112 rfl h (fun u11 h => ?_)
  refine u_ld (v := .ref 36) (pc := 29) (dec_at lsk_104 (k := 16) rfl) rfl ?_
  refine u_cvV (As := []) (rb := 36) (st2 := []) (pc := 30) (dec_at lsk_104 (k := 17) rfl) m_4_91 (Or.inl rfl) rfl (Nat.le_of_ble_eq_true rfl) sx_36 me_113 rfl h (fun u12 h => ?_)
  exact u_rV (pc := 33) (dec_at lsk_104 (k := 18) rfl) rfl h
/-- method 105 -/
def K_105 (d pc : Nat) (lv : ev_L) (st : List Value) (u : uS) (Q : uS → Prop) : Prop := okU d 4 4 false none prog_11_method_9_code (qV Q) pc lv st u
theorem e_105 {d : Nat} {Q : uS → Prop} {u : uS} (h : K_105 (d + 1) 4 [.ref 36, iV 0, iV 0, .retAddr 0] [] u Q) : cV (d + 2) 105 [.ref 36] u Q := by
  refine u_of me_105 (Nat.le_of_ble_eq_true rfl) ?_
  refine u_ld (v := iV 0) (pc := 0) (dec_at lsk_105 (k := 0) rfl) rfl ?_
  refine u_sto (lv' := [.ref 36, iV 0, .retAddr 0, .retAddr 0]) (pc := 1) (dec_at lsk_105 (k := 1) rfl) rfl ?_
  refine u_ld (v := iV 0) (pc := 2) (dec_at lsk_105 (k := 2) rfl) rfl ?_
  refine u_sto (lv' := [.ref 36, iV 0, iV 0, .retAddr 0]) (pc := 3) (dec_at lsk_105 (k := 3) rfl) rfl ?_
  exact h
theorem k_105_4 {d : Nat} {Q : uS → Prop} {u : uS} {l1 l2 : Int} (h : (isO (u.2 36 0) 2) ∧ ((rI l2) ∧ ((rI (u.1 (u.2 36 0) 0)) ∧ (if l2 < u.1 (u.2 36 0) 0 then ((0 ≤ l2) ∧ ((l2 < 10) ∧ ((rL (u.1 ((u.2 36 0) + 5) l2)) ∧ (if u.1 ((u.2 36 0) + 5) l2 = 0 then (K_105 (d + 1) 4 [.ref 36, iV (ior l1 (ishl 1 l2)), iV (l2 + 1), .retAddr 0] [] u Q) else (K_105 (d + 1) 4 [.ref 36, iV (ior l1 0), iV (l2 + 1), .retAddr 0] [] u Q))))) else (∀ u9 : uS, u9 = fil u 50 0 10 0 → (K_105 (d + 1) 55 [.ref 36, iV l1, iV 0, .retAddr 0] [] u9 Q)))))) : K_105 (d + 1) 4 [.ref 36, iV l1, iV l2, .retAddr 0] [] u Q := by
  unfold K_105
  refine u_ld (v := iV l2) (pc := 4) (dec_at lsk_105 (k := 4) rfl) rfl ?_
  refine u_ld (v := .ref 36) (pc := 5) (dec_at lsk_105 (k := 5) rfl) rfl ?_
  refine u_gR (z := 0) (pc := 6) (dec_at lsk_105 (k := 6) rfl) f_4_12 sx_36 rfl rfl ?_
  have g1 := h.1
  have h := h.2
  refine u_gI (z := 0) (pc := 9) (dec_at lsk_105 (k := 7) rfl) f_4_75 g1 rfl rfl ?_
  have g2 := h.1
  have h := h.2
  have g3 := h.1
  have h := h.2
  refine u_icF (pc := 12) (tgt := 45) (dec_at lsk_105 (k := 8) rfl) rfl (ci_ge g2 g3) (fun e4 => ?_) (fun e4 => ?_)
  · have h := ifT e4 h
    refine u_ld (v := iV l1) (pc := 15) (dec_at lsk_105 (k := 9) rfl) rfl ?_
    refine u_ld (v := .ref 36) (pc := 16) (dec_at lsk_105 (k := 10) rfl) rfl ?_
    refine u_gR (z := 0) (pc := 17) (dec_at lsk_105 (k := 11) rfl) f_4_12 sx_36 rfl rfl ?_
    refine u_gS (o := 5) (p := (u.2 36 0) + 5) (pc := 20) (dec_at lsk_105 (k := 12) rfl) f_4_94 g1 rfl rfl ?_
    refine u_ld (v := iV l2) (pc := 23) (dec_at lsk_105 (k := 13) rfl) rfl ?_
    have g5 := h.1
    have h := h.2
    have g6 := h.1
    have h := h.2
    refine u_lald (pc := 24) (dec_at lsk_105 (k := 14) rfl) (sa_2_9 g1) g5 g6 ?_
    refine u_cl (x := 0) (pc := 25) (dec_at lsk_105 (k := 15) rfl) rfl (by decide) ?_
    refine u_st (st' := [.int (lg_cmp (Int64.ofInt (u.1 ((u.2 36 0) + 5) l2)) (Int64.ofInt 0)), iV l1]) (pc := 26) (dec_at lsk_105 (k := 16) rfl) rfl ?_
    have g7 := h.1
    have h := h.2
    refine u_ifF (pc := 27) (tgt := 36) (dec_at lsk_105 (k := 17) rfl) rfl (cl_ne g7 (by decide)) (fun e8 => ?_) (fun e8 => ?_)
    · have h := ifT e8 h
      refine u_ld (v := iV 1) (pc := 30) (dec_at lsk_105 (k := 18) rfl) rfl ?_
      refine u_ld (v := iV l2) (pc := 31) (dec_at lsk_105 (k := 19) rfl) rfl ?_
      refine u_ishl (pc := 32) (dec_at lsk_105 (k := 20) rfl) ?_
      refine u_goto (pc := 33) (tgt := 37) (dec_at lsk_105 (k := 21) rfl) rfl ?_
      refine u_ior (pc := 37) (dec_at lsk_105 (k := 23) rfl) ?_
      refine u_sto (lv' := [.ref 36, iV (ior l1 (ishl 1 l2)), iV l2, .retAddr 0]) (pc := 38) (dec_at lsk_105 (k := 24) rfl) rfl ?_
      refine u_inc (lv' := [.ref 36, iV (ior l1 (ishl 1 l2)), iV (l2 + 1), .retAddr 0]) (pc := 39) (dec_at lsk_105 (k := 25) rfl) rfl (by decide) rfl ?_
      refine u_goto (pc := 42) (tgt := 4) (dec_at lsk_105 (k := 26) rfl) rfl ?_
      exact h
    · have h := ifF e8 h
      refine u_ld (v := iV 0) (pc := 36) (dec_at lsk_105 (k := 22) rfl) rfl ?_
      refine u_ior (pc := 37) (dec_at lsk_105 (k := 23) rfl) ?_
      refine u_sto (lv' := [.ref 36, iV (ior l1 0), iV l2, .retAddr 0]) (pc := 38) (dec_at lsk_105 (k := 24) rfl) rfl ?_
      refine u_inc (lv' := [.ref 36, iV (ior l1 0), iV (l2 + 1), .retAddr 0]) (pc := 39) (dec_at lsk_105 (k := 25) rfl) rfl (by decide) rfl ?_
      refine u_goto (pc := 42) (tgt := 4) (dec_at lsk_105 (k := 26) rfl) rfl ?_
      exact h
  · have h := ifF e4 h
    refine u_ld (v := .ref 36) (pc := 45) (dec_at lsk_105 (k := 27) rfl) rfl ?_
    refine u_gS (o := 14) (p := 50) (pc := 46) (dec_at lsk_105 (k := 28) rfl) f_4_32 sx_36 rfl rfl ?_
    refine u_ld (v := iV 0) (pc := 49) (dec_at lsk_105 (k := 29) rfl) rfl ?_
    refine u_csV (As := [.ref 50, iV 0]) (st2 := []) (pc := 50) (dec_at lsk_105 (k := 30) rfl) m_4_97 (Or.inl rfl) rfl (Nat.le_of_ble_eq_true rfl) (q_30 sx_50) (fun u9 e10 => ?_)
    have h := h u9 e10
    refine u_ld (v := iV 0) (pc := 53) (dec_at lsk_105 (k := 31) rfl) rfl ?_
    refine u_sto (lv' := [.ref 36, iV l1, iV 0, .retAddr 0]) (pc := 54) (dec_at lsk_105 (k := 32) rfl) rfl ?_
    exact h
theorem k_105_55 {d : Nat} {Q : uS → Prop} {u : uS} {l1 l2 : Int} (h : (isO (u.2 36 0) 2) ∧ ((rI l2) ∧ ((rI (u.1 (u.2 36 0) 1)) ∧ (if l2 < u.1 (u.2 36 0) 1 then (cI (d + 1) 106 [.ref 36, iV l2, iV l1] u (fun r6 u5 => (rI r6) ∧ (if r6 = 0 then (K_105 (d + 1) 55 [.ref 36, iV l1, iV (l2 + 1), .retAddr 0] [] u5 Q) else ((isO (u5.2 36 0) 2) ∧ ((0 ≤ l2) ∧ ((l2 < 30) ∧ ((0 ≤ u5.1 ((u5.2 36 0) + 2) l2) ∧ ((u5.1 ((u5.2 36 0) + 2) l2 < 10) ∧ (cI (d + 1) 54 [.ref (u5.2 36 0), iV l2] u5 (fun r15 u14 => ∀ u16 : uS, u16 = wr u14 50 (u5.1 ((u5.2 36 0) + 2) l2) (ior (u5.1 50 (u5.1 ((u5.2 36 0) + 2) l2)) r15) → (K_105 (d + 1) 55 [.ref 36, iV l1, iV (l2 + 1), .retAddr 0] [] u16 Q))))))))))) else (cI (d + 1) 107 [.ref 36] u (fun r19 u18 => K_105 (d + 1) 113 [.ref 36, iV l1, iV r19, iV 0] [] u18 Q)))))) : K_105 (d + 1) 55 [.ref 36, iV l1, iV l2, .retAddr 0] [] u Q := by
  unfold K_105
  refine u_ld (v := iV l2) (pc := 55) (dec_at lsk_105 (k := 33) rfl) rfl ?_
  refine u_ld (v := .ref 36) (pc := 56) (dec_at lsk_105 (k := 34) rfl) rfl ?_
  refine u_gR (z := 0) (pc := 57) (dec_at lsk_105 (k := 35) rfl) f_4_12 sx_36 rfl rfl ?_
  have g1 := h.1
  have h := h.2
  refine u_gI (z := 1) (pc := 60) (dec_at lsk_105 (k := 36) rfl) f_4_103 g1 rfl rfl ?_
  have g2 := h.1
  have h := h.2
  have g3 := h.1
  have h := h.2
  refine u_icF (pc := 63) (tgt := 106) (dec_at lsk_105 (k := 37) rfl) rfl (ci_ge g2 g3) (fun e4 => ?_) (fun e4 => ?_)
  · have h := ifT e4 h
    refine u_ld (v := .ref 36) (pc := 66) (dec_at lsk_105 (k := 38) rfl) rfl ?_
    refine u_ld (v := iV l2) (pc := 67) (dec_at lsk_105 (k := 39) rfl) rfl ?_
    refine u_ld (v := iV l1) (pc := 68) (dec_at lsk_105 (k := 40) rfl) rfl ?_
    refine u_cvI (As := [iV l2, iV l1]) (rb := 36) (st2 := []) (pc := 69) (dec_at lsk_105 (k := 41) rfl) m_4_105 (Or.inl rfl) rfl (Nat.le_of_ble_eq_true rfl) sx_36 me_106 rfl h (fun r6 u5 h => ?_)
    have g7 := h.1
    have h := h.2
    refine u_ifT (pc := 72) (tgt := 100) (dec_at lsk_105 (k := 42) rfl) rfl (c0_eq g7) (fun e8 => ?_) (fun e8 => ?_)
    · have h := ifT e8 h
      refine u_inc (lv' := [.ref 36, iV l1, iV (l2 + 1), .retAddr 0]) (pc := 100) (dec_at lsk_105 (k := 58) rfl) rfl (by decide) rfl ?_
      refine u_goto (pc := 103) (tgt := 55) (dec_at lsk_105 (k := 59) rfl) rfl ?_
      exact h
    · have h := ifF e8 h
      refine u_ld (v := .ref 36) (pc := 75) (dec_at lsk_105 (k := 43) rfl) rfl ?_
      refine u_gS (o := 14) (p := 50) (pc := 76) (dec_at lsk_105 (k := 44) rfl) f_4_32 sx_36 rfl rfl ?_
      refine u_ld (v := .ref 36) (pc := 79) (dec_at lsk_105 (k := 45) rfl) rfl ?_
      refine u_gR (z := 0) (pc := 80) (dec_at lsk_105 (k := 46) rfl) f_4_12 sx_36 rfl rfl ?_
      have g9 := h.1
      have h := h.2
      refine u_gS (o := 2) (p := (u5.2 36 0) + 2) (pc := 83) (dec_at lsk_105 (k := 47) rfl) f_4_109 g9 rfl rfl ?_
      refine u_ld (v := iV l2) (pc := 86) (dec_at lsk_105 (k := 48) rfl) rfl ?_
      have g10 := h.1
      have h := h.2
      have g11 := h.1
      have h := h.2
      refine u_iald (pc := 87) (dec_at lsk_105 (k := 49) rfl) (sa_2_3 g9) g10 g11 ?_
      refine u_st (st' := [iV (u5.1 ((u5.2 36 0) + 2) l2), .ref 50, iV (u5.1 ((u5.2 36 0) + 2) l2), .ref 50]) (pc := 88) (dec_at lsk_105 (k := 50) rfl) rfl ?_
      have g12 := h.1
      have h := h.2
      have g13 := h.1
      have h := h.2
      refine u_iald (pc := 89) (dec_at lsk_105 (k := 51) rfl) sx_50 g12 g13 ?_
      refine u_ld (v := .ref 36) (pc := 90) (dec_at lsk_105 (k := 52) rfl) rfl ?_
      refine u_gR (z := 0) (pc := 91) (dec_at lsk_105 (k := 53) rfl) f_4_12 sx_36 rfl rfl ?_
      refine u_ld (v := iV l2) (pc := 94) (dec_at lsk_105 (k := 54) rfl) rfl ?_
      refine u_cvI (As := [iV l2]) (rb := u5.2 36 0) (st2 := [iV (u5.1 50 (u5.1 ((u5.2 36 0) + 2) l2)), iV (u5.1 ((u5.2 36 0) + 2) l2), .ref 50]) (pc := 95) (dec_at lsk_105 (k := 55) rfl) m_4_112 (Or.inr rfl) rfl (Nat.le_of_ble_eq_true rfl) g9 me_54 rfl h (fun r15 u14 h => ?_)
      refine u_ior (pc := 98) (dec_at lsk_105 (k := 56) rfl) ?_
      refine u_iast (pc := 99) (dec_at lsk_105 (k := 57) rfl) sx_50 g12 g13 (fun u16 e17 => ?_)
      have h := h u16 e17
      refine u_inc (lv' := [.ref 36, iV l1, iV (l2 + 1), .retAddr 0]) (pc := 100) (dec_at lsk_105 (k := 58) rfl) rfl (by decide) rfl ?_
      refine u_goto (pc := 103) (tgt := 55) (dec_at lsk_105 (k := 59) rfl) rfl ?_
      exact h
  · have h := ifF e4 h
    refine u_ld (v := .ref 36) (pc := 106) (dec_at lsk_105 (k := 60) rfl) rfl ?_
    refine u_cvI (As := []) (rb := 36) (st2 := []) (pc := 107) (dec_at lsk_105 (k := 61) rfl) m_4_116 (Or.inl rfl) rfl (Nat.le_of_ble_eq_true rfl) sx_36 me_107 rfl h (fun r19 u18 h => ?_)
    refine u_sto (lv' := [.ref 36, iV l1, iV r19, .retAddr 0]) (pc := 110) (dec_at lsk_105 (k := 62) rfl) rfl ?_
    refine u_ld (v := iV 0) (pc := 111) (dec_at lsk_105 (k := 63) rfl) rfl ?_
    refine u_sto (lv' := [.ref 36, iV l1, iV r19, iV 0]) (pc := 112) (dec_at lsk_105 (k := 64) rfl) rfl ?_
    exact h
theorem k_105_113 {d : Nat} {Q : uS → Prop} {u : uS} {l1 l2 l3 : Int} (h : (isO (u.2 36 0) 2) ∧ ((rI l3) ∧ ((rI (u.1 (u.2 36 0) 0)) ∧ (if l3 < u.1 (u.2 36 0) 0 then ((0 ≤ l3) ∧ ((l3 < 10) ∧ (if iand (ior (u.1 50 l3) (ishl 1 l3)) l2 = 0 then (∀ u8 : uS, u8 = wr u 47 l3 0 → (K_105 (d + 1) 113 [.ref 36, iV l1, iV l2, iV (l3 + 1)] [] u8 Q)) else (∀ u10 : uS, u10 = wr u 47 l3 9000000000000000000 → (K_105 (d + 1) 113 [.ref 36, iV l1, iV l2, iV (l3 + 1)] [] u10 Q))))) else (K_105 (d + 1) 160 [.ref 36, iV l1, iV l2, iV 0] [] u Q))))) : K_105 (d + 1) 113 [.ref 36, iV l1, iV l2, iV l3] [] u Q := by
  unfold K_105
  refine u_ld (v := iV l3) (pc := 113) (dec_at lsk_105 (k := 65) rfl) rfl ?_
  refine u_ld (v := .ref 36) (pc := 114) (dec_at lsk_105 (k := 66) rfl) rfl ?_
  refine u_gR (z := 0) (pc := 115) (dec_at lsk_105 (k := 67) rfl) f_4_12 sx_36 rfl rfl ?_
  have g1 := h.1
  have h := h.2
  refine u_gI (z := 0) (pc := 118) (dec_at lsk_105 (k := 68) rfl) f_4_75 g1 rfl rfl ?_
  have g2 := h.1
  have h := h.2
  have g3 := h.1
  have h := h.2
  refine u_icF (pc := 121) (tgt := 158) (dec_at lsk_105 (k := 69) rfl) rfl (ci_ge g2 g3) (fun e4 => ?_) (fun e4 => ?_)
  · have h := ifT e4 h
    refine u_ld (v := .ref 36) (pc := 124) (dec_at lsk_105 (k := 70) rfl) rfl ?_
    refine u_gS (o := 11) (p := 47) (pc := 125) (dec_at lsk_105 (k := 71) rfl) f_4_22 sx_36 rfl rfl ?_
    refine u_ld (v := iV l3) (pc := 128) (dec_at lsk_105 (k := 72) rfl) rfl ?_
    refine u_ld (v := .ref 36) (pc := 129) (dec_at lsk_105 (k := 73) rfl) rfl ?_
    refine u_gS (o := 14) (p := 50) (pc := 130) (dec_at lsk_105 (k := 74) rfl) f_4_32 sx_36 rfl rfl ?_
    refine u_ld (v := iV l3) (pc := 133) (dec_at lsk_105 (k := 75) rfl) rfl ?_
    have g5 := h.1
    have h := h.2
    have g6 := h.1
    have h := h.2
    refine u_iald (pc := 134) (dec_at lsk_105 (k := 76) rfl) sx_50 g5 g6 ?_
    refine u_ld (v := iV 1) (pc := 135) (dec_at lsk_105 (k := 77) rfl) rfl ?_
    refine u_ld (v := iV l3) (pc := 136) (dec_at lsk_105 (k := 78) rfl) rfl ?_
    refine u_ishl (pc := 137) (dec_at lsk_105 (k := 79) rfl) ?_
    refine u_ior (pc := 138) (dec_at lsk_105 (k := 80) rfl) ?_
    refine u_ld (v := iV l2) (pc := 139) (dec_at lsk_105 (k := 81) rfl) rfl ?_
    refine u_iand (pc := 140) (dec_at lsk_105 (k := 82) rfl) ?_
    refine u_ifT (pc := 141) (tgt := 150) (dec_at lsk_105 (k := 83) rfl) rfl (c0_eq (ri_toInt _)) (fun e7 => ?_) (fun e7 => ?_)
    · have h := ifT e7 h
      refine u_cl (x := 0) (pc := 150) (dec_at lsk_105 (k := 86) rfl) rfl (by decide) ?_
      refine u_last (pc := 151) (dec_at lsk_105 (k := 87) rfl) sx_47 g5 g6 (fun u8 e9 => ?_)
      have h := h u8 e9
      refine u_inc (lv' := [.ref 36, iV l1, iV l2, iV (l3 + 1)]) (pc := 152) (dec_at lsk_105 (k := 88) rfl) rfl (by decide) rfl ?_
      refine u_goto (pc := 155) (tgt := 113) (dec_at lsk_105 (k := 89) rfl) rfl ?_
      exact h
    · have h := ifF e7 h
      refine u_ldc2 (x := 9000000000000000000) (pc := 144) (dec_at lsk_105 (k := 84) rfl) con_4_120 (by decide) ?_
      refine u_goto (pc := 147) (tgt := 151) (dec_at lsk_105 (k := 85) rfl) rfl ?_
      refine u_last (pc := 151) (dec_at lsk_105 (k := 87) rfl) sx_47 g5 g6 (fun u10 e11 => ?_)
      have h := h u10 e11
      refine u_inc (lv' := [.ref 36, iV l1, iV l2, iV (l3 + 1)]) (pc := 152) (dec_at lsk_105 (k := 88) rfl) rfl (by decide) rfl ?_
      refine u_goto (pc := 155) (tgt := 113) (dec_at lsk_105 (k := 89) rfl) rfl ?_
      exact h
  · have h := ifF e4 h
    refine u_ld (v := iV 0) (pc := 158) (dec_at lsk_105 (k := 90) rfl) rfl ?_
    refine u_sto (lv' := [.ref 36, iV l1, iV l2, iV 0]) (pc := 159) (dec_at lsk_105 (k := 91) rfl) rfl ?_
    exact h
theorem k_105_160 {d : Nat} {Q : uS → Prop} {u : uS} {l1 l2 l3 : Int} (h : (isO (u.2 36 0) 2) ∧ ((rI l3) ∧ ((rI (u.1 (u.2 36 0) 0)) ∧ (if l3 < u.1 (u.2 36 0) 0 then (cV (d + 1) 108 [.ref 36, iV l1, iV l2] u (fun u5 => K_105 (d + 1) 160 [.ref 36, iV l1, iV l2, iV (l3 + 1)] [] u5 Q)) else (Q u))))) : K_105 (d + 1) 160 [.ref 36, iV l1, iV l2, iV l3] [] u Q := by
  unfold K_105
  refine u_ld (v := iV l3) (pc := 160) (dec_at lsk_105 (k := 92) rfl) rfl ?_
  refine u_ld (v := .ref 36) (pc := 161) (dec_at lsk_105 (k := 93) rfl) rfl ?_
  refine u_gR (z := 0) (pc := 162) (dec_at lsk_105 (k := 94) rfl) f_4_12 sx_36 rfl rfl ?_
  have g1 := h.1
  have h := h.2
  refine u_gI (z := 0) (pc := 165) (dec_at lsk_105 (k := 95) rfl) f_4_75 g1 rfl rfl ?_
  have g2 := h.1
  have h := h.2
  have g3 := h.1
  have h := h.2
  refine u_icF (pc := 168) (tgt := 183) (dec_at lsk_105 (k := 96) rfl) rfl (ci_ge g2 g3) (fun e4 => ?_) (fun e4 => ?_)
  · have h := ifT e4 h
    refine u_ld (v := .ref 36) (pc := 171) (dec_at lsk_105 (k := 97) rfl) rfl ?_
    refine u_ld (v := iV l1) (pc := 172) (dec_at lsk_105 (k := 98) rfl) rfl ?_
    refine u_ld (v := iV l2) (pc := 173) (dec_at lsk_105 (k := 99) rfl) rfl ?_
    refine u_cvV (As := [iV l1, iV l2]) (rb := 36) (st2 := []) (pc := 174) (dec_at lsk_105 (k := 100) rfl) m_4_122 (Or.inl rfl) rfl (Nat.le_of_ble_eq_true rfl) sx_36 me_108 rfl h (fun u5 h => ?_)
    refine u_inc (lv' := [.ref 36, iV l1, iV l2, iV (l3 + 1)]) (pc := 177) (dec_at lsk_105 (k := 101) rfl) rfl (by decide) rfl ?_
    refine u_goto (pc := 180) (tgt := 160) (dec_at lsk_105 (k := 102) rfl) rfl ?_
    exact h
  · have h := ifF e4 h
    exact u_rV (pc := 183) (dec_at lsk_105 (k := 103) rfl) rfl h
/-- method 106 -/
def K_106 (d pc : Nat) (lv : ev_L) (st : List Value) (u : uS) (Q : Int → uS → Prop) : Prop := okU d 4 4 false (some .boolean) prog_11_method_11_code (qI Q) pc lv st u
theorem e_106 {d : Nat} {Q : Int → uS → Prop} {u : uS} {l1 l2 : Int} (h : K_106 (d + 1) 2 [.ref 36, iV l1, iV l2, iV 0] [] u Q) : cI (d + 2) 106 [.ref 36, iV l1, iV l2] u Q := by
  refine u_of me_106 (Nat.le_of_ble_eq_true rfl) ?_
  refine u_ld (v := iV 0) (pc := 0) (dec_at lsk_106 (k := 0) rfl) rfl ?_
  refine u_sto (lv' := [.ref 36, iV l1, iV l2, iV 0]) (pc := 1) (dec_at lsk_106 (k := 1) rfl) rfl ?_
  exact h
theorem k_106_2 {d : Nat} {Q : Int → uS → Prop} {u : uS} {l1 l2 l3 : Int} (h : (isO (u.2 36 0) 2) ∧ ((0 ≤ l1) ∧ ((l1 < 30) ∧ ((rI l3) ∧ ((rI (u.1 ((u.2 36 0) + 3) l1)) ∧ (if l3 < u.1 ((u.2 36 0) + 3) l1 then ((0 ≤ (l1 * 6) + l3) ∧ (((l1 * 6) + l3 < 180) ∧ ((rI (u.1 ((u.2 36 0) + 4) ((l1 * 6) + l3))) ∧ (if u.1 ((u.2 36 0) + 4) ((l1 * 6) + l3) < 100 then (Q 0 u) else (K_106 (d + 1) 2 [.ref 36, iV l1, iV l2, iV (l3 + 1)] [] u Q))))) else (cI (d + 1) 46 [.ref (u.2 36 0), iV l1, iV l2] u (fun r12 u11 => (r12 = 0 ∨ r12 = 1) ∧ (Q r12 u11))))))))) : K_106 (d + 1) 2 [.ref 36, iV l1, iV l2, iV l3] [] u Q := by
  unfold K_106
  refine u_ld (v := iV l3) (pc := 2) (dec_at lsk_106 (k := 2) rfl) rfl ?_
  refine u_ld (v := .ref 36) (pc := 3) (dec_at lsk_106 (k := 3) rfl) rfl ?_
  refine u_gR (z := 0) (pc := 4) (dec_at lsk_106 (k := 4) rfl) f_4_12 sx_36 rfl rfl ?_
  have g1 := h.1
  have h := h.2
  refine u_gS (o := 3) (p := (u.2 36 0) + 3) (pc := 7) (dec_at lsk_106 (k := 5) rfl) f_4_129 g1 rfl rfl ?_
  refine u_ld (v := iV l1) (pc := 10) (dec_at lsk_106 (k := 6) rfl) rfl ?_
  have g2 := h.1
  have h := h.2
  have g3 := h.1
  have h := h.2
  refine u_iald (pc := 11) (dec_at lsk_106 (k := 7) rfl) (sa_2_4 g1) g2 g3 ?_
  have g4 := h.1
  have h := h.2
  have g5 := h.1
  have h := h.2
  refine u_icF (pc := 12) (tgt := 37) (dec_at lsk_106 (k := 8) rfl) rfl (ci_ge g4 g5) (fun e6 => ?_) (fun e6 => ?_)
  · have h := ifT e6 h
    refine u_ld (v := .ref 36) (pc := 15) (dec_at lsk_106 (k := 9) rfl) rfl ?_
    refine u_gR (z := 0) (pc := 16) (dec_at lsk_106 (k := 10) rfl) f_4_12 sx_36 rfl rfl ?_
    refine u_ld (v := iV l1) (pc := 19) (dec_at lsk_106 (k := 11) rfl) rfl ?_
    refine u_ld (v := iV l3) (pc := 20) (dec_at lsk_106 (k := 12) rfl) rfl ?_
    refine u_cvI (As := [iV l1, iV l3]) (rb := u.2 36 0) (st2 := []) (pc := 21) (dec_at lsk_106 (k := 13) rfl) m_4_140 (Or.inl rfl) rfl (Nat.le_of_ble_eq_true rfl) g1 me_42 rfl ?_ (fun _ _ h_ => h_)
    refine u_of me_42 (Nat.le_of_ble_eq_true rfl) ?_
    refine u_ld (v := .ref (u.2 36 0)) (pc := 0) (dec_at lsk_42 (k := 0) rfl) rfl ?_
    refine u_gS (o := 4) (p := (u.2 36 0) + 4) (pc := 1) (dec_at lsk_42 (k := 1) rfl) f_2_21 g1 rfl rfl ?_
    refine u_ld (v := iV l1) (pc := 4) (dec_at lsk_42 (k := 2) rfl) rfl ?_
    refine u_c (x := 6) (pc := 5) (dec_at lsk_42 (k := 3) rfl) rfl (by decide) ?_
    refine u_imul (pc := 7) (dec_at lsk_42 (k := 4) rfl) ?_
    refine u_ld (v := iV l3) (pc := 8) (dec_at lsk_42 (k := 5) rfl) rfl ?_
    refine u_iadd (pc := 9) (dec_at lsk_42 (k := 6) rfl) ?_
    have g7 := h.1
    have h := h.2
    have g8 := h.1
    have h := h.2
    refine u_iald (pc := 10) (dec_at lsk_42 (k := 7) rfl) (sa_2_5 g1) g7 g8 ?_
    refine u_rI (pc := 11) (dec_at lsk_42 (k := 8) rfl) rfl ?_
    refine u_c (x := 100) (pc := 24) (dec_at lsk_106 (k := 14) rfl) rfl (by decide) ?_
    have g9 := h.1
    have h := h.2
    refine u_icF (pc := 26) (tgt := 31) (dec_at lsk_106 (k := 15) rfl) rfl (ci_ge g9 (by decide)) (fun e10 => ?_) (fun e10 => ?_)
    · have h := ifT e10 h
      refine u_ld (v := iV 0) (pc := 29) (dec_at lsk_106 (k := 16) rfl) rfl ?_
      exact u_rZ (pc := 30) (dec_at lsk_106 (k := 17) rfl) rfl (by decide) h
    · have h := ifF e10 h
      refine u_inc (lv' := [.ref 36, iV l1, iV l2, iV (l3 + 1)]) (pc := 31) (dec_at lsk_106 (k := 18) rfl) rfl (by decide) rfl ?_
      refine u_goto (pc := 34) (tgt := 2) (dec_at lsk_106 (k := 19) rfl) rfl ?_
      exact h
  · have h := ifF e6 h
    refine u_ld (v := .ref 36) (pc := 37) (dec_at lsk_106 (k := 20) rfl) rfl ?_
    refine u_gR (z := 0) (pc := 38) (dec_at lsk_106 (k := 21) rfl) f_4_12 sx_36 rfl rfl ?_
    refine u_ld (v := iV l1) (pc := 41) (dec_at lsk_106 (k := 22) rfl) rfl ?_
    refine u_ld (v := iV l2) (pc := 42) (dec_at lsk_106 (k := 23) rfl) rfl ?_
    refine u_cvI (As := [iV l1, iV l2]) (rb := u.2 36 0) (st2 := []) (pc := 43) (dec_at lsk_106 (k := 24) rfl) m_4_144 (Or.inr rfl) rfl (Nat.le_of_ble_eq_true rfl) g1 me_46 rfl h (fun r12 u11 h => ?_)
    have g13 := h.1
    have h := h.2
    exact u_rZ (pc := 46) (dec_at lsk_106 (k := 25) rfl) rfl g13 h
/-- method 107 -/
def K_107 (d pc : Nat) (lv : ev_L) (st : List Value) (u : uS) (Q : Int → uS → Prop) : Prop := okU d 4 3 false (some .int) prog_11_method_13_code (qI Q) pc lv st u
theorem e_107 {d : Nat} {Q : Int → uS → Prop} {u : uS} (h : (isO (u.2 36 0) 2) ∧ (cV d 60 [.ref 50, iV (u.1 (u.2 36 0) 0)] u (fun u2 => K_107 d 18 [.ref 36, iV 0, iV 0] [] u2 Q))) : cI (d + 1) 107 [.ref 36] u Q := by
  refine u_of me_107 (Nat.le_of_ble_eq_true rfl) ?_
  refine u_ld (v := .ref 36) (pc := 0) (dec_at lsk_107 (k := 0) rfl) rfl ?_
  refine u_gS (o := 14) (p := 50) (pc := 1) (dec_at lsk_107 (k := 1) rfl) f_4_32 sx_36 rfl rfl ?_
  refine u_ld (v := .ref 36) (pc := 4) (dec_at lsk_107 (k := 2) rfl) rfl ?_
  refine u_gR (z := 0) (pc := 5) (dec_at lsk_107 (k := 3) rfl) f_4_12 sx_36 rfl rfl ?_
  have g1 := h.1
  have h := h.2
  refine u_gI (z := 0) (pc := 8) (dec_at lsk_107 (k := 4) rfl) f_4_75 g1 rfl rfl ?_
  refine u_csV (As := [.ref 50, iV (u.1 (u.2 36 0) 0)]) (st2 := []) (pc := 11) (dec_at lsk_107 (k := 5) rfl) m_4_154 (Or.inr rfl) rfl (Nat.le_of_ble_eq_true rfl) h (fun u2 h => ?_)
  refine u_ld (v := iV 0) (pc := 14) (dec_at lsk_107 (k := 6) rfl) rfl ?_
  refine u_sto (lv' := [.ref 36, iV 0, .retAddr 0]) (pc := 15) (dec_at lsk_107 (k := 7) rfl) rfl ?_
  refine u_ld (v := iV 0) (pc := 16) (dec_at lsk_107 (k := 8) rfl) rfl ?_
  refine u_sto (lv' := [.ref 36, iV 0, iV 0]) (pc := 17) (dec_at lsk_107 (k := 9) rfl) rfl ?_
  exact h
theorem k_107_18 {d : Nat} {Q : Int → uS → Prop} {u : uS} {l1 l2 : Int} (h : (isO (u.2 36 0) 2) ∧ ((rI l2) ∧ ((rI (u.1 (u.2 36 0) 0)) ∧ (if l2 < u.1 (u.2 36 0) 0 then ((0 ≤ l2) ∧ ((l2 < 10) ∧ (K_107 d 18 [.ref 36, iV (ior l1 (iand (u.1 50 l2) (ishl 1 l2))), iV (l2 + 1)] [] u Q))) else (Q l1 u))))) : K_107 d 18 [.ref 36, iV l1, iV l2] [] u Q := by
  unfold K_107
  refine u_ld (v := iV l2) (pc := 18) (dec_at lsk_107 (k := 10) rfl) rfl ?_
  refine u_ld (v := .ref 36) (pc := 19) (dec_at lsk_107 (k := 11) rfl) rfl ?_
  refine u_gR (z := 0) (pc := 20) (dec_at lsk_107 (k := 12) rfl) f_4_12 sx_36 rfl rfl ?_
  have g1 := h.1
  have h := h.2
  refine u_gI (z := 0) (pc := 23) (dec_at lsk_107 (k := 13) rfl) f_4_75 g1 rfl rfl ?_
  have g2 := h.1
  have h := h.2
  have g3 := h.1
  have h := h.2
  refine u_icF (pc := 26) (tgt := 48) (dec_at lsk_107 (k := 14) rfl) rfl (ci_ge g2 g3) (fun e4 => ?_) (fun e4 => ?_)
  · have h := ifT e4 h
    refine u_ld (v := iV l1) (pc := 29) (dec_at lsk_107 (k := 15) rfl) rfl ?_
    refine u_ld (v := .ref 36) (pc := 30) (dec_at lsk_107 (k := 16) rfl) rfl ?_
    refine u_gS (o := 14) (p := 50) (pc := 31) (dec_at lsk_107 (k := 17) rfl) f_4_32 sx_36 rfl rfl ?_
    refine u_ld (v := iV l2) (pc := 34) (dec_at lsk_107 (k := 18) rfl) rfl ?_
    have g5 := h.1
    have h := h.2
    have g6 := h.1
    have h := h.2
    refine u_iald (pc := 35) (dec_at lsk_107 (k := 19) rfl) sx_50 g5 g6 ?_
    refine u_ld (v := iV 1) (pc := 36) (dec_at lsk_107 (k := 20) rfl) rfl ?_
    refine u_ld (v := iV l2) (pc := 37) (dec_at lsk_107 (k := 21) rfl) rfl ?_
    refine u_ishl (pc := 38) (dec_at lsk_107 (k := 22) rfl) ?_
    refine u_iand (pc := 39) (dec_at lsk_107 (k := 23) rfl) ?_
    refine u_ior (pc := 40) (dec_at lsk_107 (k := 24) rfl) ?_
    refine u_sto (lv' := [.ref 36, iV (ior l1 (iand (u.1 50 l2) (ishl 1 l2))), iV l2]) (pc := 41) (dec_at lsk_107 (k := 25) rfl) rfl ?_
    refine u_inc (lv' := [.ref 36, iV (ior l1 (iand (u.1 50 l2) (ishl 1 l2))), iV (l2 + 1)]) (pc := 42) (dec_at lsk_107 (k := 26) rfl) rfl (by decide) rfl ?_
    refine u_goto (pc := 45) (tgt := 18) (dec_at lsk_107 (k := 27) rfl) rfl ?_
    exact h
  · have h := ifF e4 h
    refine u_ld (v := iV l1) (pc := 48) (dec_at lsk_107 (k := 28) rfl) rfl ?_
    exact u_rI (pc := 49) (dec_at lsk_107 (k := 29) rfl) rfl h
/-- method 108 -/
def K_108 (d pc : Nat) (lv : ev_L) (st : List Value) (u : uS) (Q : uS → Prop) : Prop := okU d 4 4 false none prog_11_method_10_code (qV Q) pc lv st u
theorem e_108 {d : Nat} {Q : uS → Prop} {u : uS} {l1 l2 : Int} (h : ∀ u1 : uS, u1 = fil u 55 0 10 0 → (K_108 (d + 1) 10 [.ref 36, iV l1, iV l2, iV 0] [] u1 Q)) : cV (d + 2) 108 [.ref 36, iV l1, iV l2] u Q := by
  refine u_of me_108 (Nat.le_of_ble_eq_true rfl) ?_
  refine u_ld (v := .ref 36) (pc := 0) (dec_at lsk_108 (k := 0) rfl) rfl ?_
  refine u_gS (o := 19) (p := 55) (pc := 1) (dec_at lsk_108 (k := 1) rfl) f_4_47 sx_36 rfl rfl ?_
  refine u_cl (x := 0) (pc := 4) (dec_at lsk_108 (k := 2) rfl) rfl (by decide) ?_
  refine u_csV (As := [.ref 55, lV 0]) (st2 := []) (pc := 5) (dec_at lsk_108 (k := 3) rfl) m_4_126 (Or.inl rfl) rfl (Nat.le_of_ble_eq_true rfl) (q_49 sx_55) (fun u1 e2 => ?_)
  have h := h u1 e2
  refine u_ld (v := iV 0) (pc := 8) (dec_at lsk_108 (k := 4) rfl) rfl ?_
  refine u_sto (lv' := [.ref 36, iV l1, iV l2, iV 0]) (pc := 9) (dec_at lsk_108 (k := 5) rfl) rfl ?_
  exact h
theorem k_108_10 {d : Nat} {Q : uS → Prop} {u : uS} {l1 l2 l3 : Int} (h : (isO (u.2 36 0) 2) ∧ ((rI l3) ∧ ((rI (u.1 (u.2 36 0) 1)) ∧ (if l3 < u.1 (u.2 36 0) 1 then (cI (d + 1) 106 [.ref 36, iV l3, iV l1] u (fun r6 u5 => (rI r6) ∧ (if r6 = 0 then (K_108 (d + 1) 10 [.ref 36, iV l1, iV l2, iV (l3 + 1)] [] u5 Q) else ((isO (u5.2 36 0) 2) ∧ ((0 ≤ l3) ∧ ((l3 < 30) ∧ ((0 ≤ u5.1 ((u5.2 36 0) + 2) l3) ∧ ((u5.1 ((u5.2 36 0) + 2) l3 < 10) ∧ (cL (d + 1) 109 [.ref 36, iV l3, iV 0, iV (u5.1 ((u5.2 36 0) + 3) l3)] u5 (fun r15 u14 => (cn 9000000000000000000 (u5.1 55 (u5.1 ((u5.2 36 0) + 2) l3))) ∧ ((cn 9000000000000000000 r15) ∧ (∀ u18 : uS, u18 = wr u14 55 (u5.1 ((u5.2 36 0) + 2) l3) (pl 9000000000000000000 (u5.1 55 (u5.1 ((u5.2 36 0) + 2) l3)) r15) → (K_108 (d + 1) 10 [.ref 36, iV l1, iV l2, iV (l3 + 1)] [] u18 Q))))))))))))) else (K_108 (d + 1) 84 [.ref 36, .retAddr 0, iV l2, iV 0] [] u Q))))) : K_108 (d + 1) 10 [.ref 36, iV l1, iV l2, iV l3] [] u Q := by
  unfold K_108
  refine u_ld (v := iV l3) (pc := 10) (dec_at lsk_108 (k := 6) rfl) rfl ?_
  refine u_ld (v := .ref 36) (pc := 11) (dec_at lsk_108 (k := 7) rfl) rfl ?_
  refine u_gR (z := 0) (pc := 12) (dec_at lsk_108 (k := 8) rfl) f_4_12 sx_36 rfl rfl ?_
  have g1 := h.1
  have h := h.2
  refine u_gI (z := 1) (pc := 15) (dec_at lsk_108 (k := 9) rfl) f_4_103 g1 rfl rfl ?_
  have g2 := h.1
  have h := h.2
  have g3 := h.1
  have h := h.2
  refine u_icF (pc := 18) (tgt := 82) (dec_at lsk_108 (k := 10) rfl) rfl (ci_ge g2 g3) (fun e4 => ?_) (fun e4 => ?_)
  · have h := ifT e4 h
    refine u_ld (v := .ref 36) (pc := 21) (dec_at lsk_108 (k := 11) rfl) rfl ?_
    refine u_ld (v := iV l3) (pc := 22) (dec_at lsk_108 (k := 12) rfl) rfl ?_
    refine u_ld (v := iV l1) (pc := 23) (dec_at lsk_108 (k := 13) rfl) rfl ?_
    refine u_cvI (As := [iV l3, iV l1]) (rb := 36) (st2 := []) (pc := 24) (dec_at lsk_108 (k := 14) rfl) m_4_105 (Or.inl rfl) rfl (Nat.le_of_ble_eq_true rfl) sx_36 me_106 rfl h (fun r6 u5 h => ?_)
    have g7 := h.1
    have h := h.2
    refine u_ifT (pc := 27) (tgt := 76) (dec_at lsk_108 (k := 15) rfl) rfl (c0_eq g7) (fun e8 => ?_) (fun e8 => ?_)
    · have h := ifT e8 h
      refine u_inc (lv' := [.ref 36, iV l1, iV l2, iV (l3 + 1)]) (pc := 76) (dec_at lsk_108 (k := 42) rfl) rfl (by decide) rfl ?_
      refine u_goto (pc := 79) (tgt := 10) (dec_at lsk_108 (k := 43) rfl) rfl ?_
      exact h
    · have h := ifF e8 h
      refine u_ld (v := .ref 36) (pc := 30) (dec_at lsk_108 (k := 16) rfl) rfl ?_
      refine u_gS (o := 19) (p := 55) (pc := 31) (dec_at lsk_108 (k := 17) rfl) f_4_47 sx_36 rfl rfl ?_
      refine u_ld (v := .ref 36) (pc := 34) (dec_at lsk_108 (k := 18) rfl) rfl ?_
      refine u_gR (z := 0) (pc := 35) (dec_at lsk_108 (k := 19) rfl) f_4_12 sx_36 rfl rfl ?_
      have g9 := h.1
      have h := h.2
      refine u_gS (o := 2) (p := (u5.2 36 0) + 2) (pc := 38) (dec_at lsk_108 (k := 20) rfl) f_4_109 g9 rfl rfl ?_
      refine u_ld (v := iV l3) (pc := 41) (dec_at lsk_108 (k := 21) rfl) rfl ?_
      have g10 := h.1
      have h := h.2
      have g11 := h.1
      have h := h.2
      refine u_iald (pc := 42) (dec_at lsk_108 (k := 22) rfl) (sa_2_3 g9) g10 g11 ?_
      refine u_ld (v := .ref 36) (pc := 43) (dec_at lsk_108 (k := 23) rfl) rfl ?_
      refine u_gS (o := 19) (p := 55) (pc := 44) (dec_at lsk_108 (k := 24) rfl) f_4_47 sx_36 rfl rfl ?_
      refine u_ld (v := .ref 36) (pc := 47) (dec_at lsk_108 (k := 25) rfl) rfl ?_
      refine u_gR (z := 0) (pc := 48) (dec_at lsk_108 (k := 26) rfl) f_4_12 sx_36 rfl rfl ?_
      refine u_gS (o := 2) (p := (u5.2 36 0) + 2) (pc := 51) (dec_at lsk_108 (k := 27) rfl) f_4_109 g9 rfl rfl ?_
      refine u_ld (v := iV l3) (pc := 54) (dec_at lsk_108 (k := 28) rfl) rfl ?_
      refine u_iald (pc := 55) (dec_at lsk_108 (k := 29) rfl) (sa_2_3 g9) g10 g11 ?_
      have g12 := h.1
      have h := h.2
      have g13 := h.1
      have h := h.2
      refine u_lald (pc := 56) (dec_at lsk_108 (k := 30) rfl) sx_55 g12 g13 ?_
      refine u_ld (v := .ref 36) (pc := 57) (dec_at lsk_108 (k := 31) rfl) rfl ?_
      refine u_ld (v := iV l3) (pc := 58) (dec_at lsk_108 (k := 32) rfl) rfl ?_
      refine u_ld (v := iV 0) (pc := 59) (dec_at lsk_108 (k := 33) rfl) rfl ?_
      refine u_ld (v := .ref 36) (pc := 60) (dec_at lsk_108 (k := 34) rfl) rfl ?_
      refine u_gR (z := 0) (pc := 61) (dec_at lsk_108 (k := 35) rfl) f_4_12 sx_36 rfl rfl ?_
      refine u_gS (o := 3) (p := (u5.2 36 0) + 3) (pc := 64) (dec_at lsk_108 (k := 36) rfl) f_4_129 g9 rfl rfl ?_
      refine u_ld (v := iV l3) (pc := 67) (dec_at lsk_108 (k := 37) rfl) rfl ?_
      refine u_iald (pc := 68) (dec_at lsk_108 (k := 38) rfl) (sa_2_4 g9) g10 g11 ?_
      refine u_cvL (As := [iV l3, iV 0, iV (u5.1 ((u5.2 36 0) + 3) l3)]) (rb := 36) (st2 := [lV (u5.1 55 (u5.1 ((u5.2 36 0) + 2) l3)), iV (u5.1 ((u5.2 36 0) + 2) l3), .ref 55]) (pc := 69) (dec_at lsk_108 (k := 39) rfl) m_4_132 (Or.inl rfl) rfl (Nat.le_of_ble_eq_true rfl) sx_36 me_109 rfl h (fun r15 u14 h => ?_)
      have g16 := h.1
      have h := h.2
      have g17 := h.1
      have h := h.2
      refine u_csL (As := [lV (u5.1 55 (u5.1 ((u5.2 36 0) + 2) l3)), lV r15]) (st2 := [iV (u5.1 ((u5.2 36 0) + 2) l3), .ref 55]) (pc := 72) (dec_at lsk_108 (k := 40) rfl) m_4_136 (Or.inr rfl) rfl (Nat.le_of_ble_eq_true rfl) (p_51 g16 g17) (fun r_ u_ h_ => ?_)
      rw [h_.1, h_.2]
      refine u_last (pc := 75) (dec_at lsk_108 (k := 41) rfl) sx_55 g12 g13 (fun u18 e19 => ?_)
      have h := h u18 e19
      refine u_inc (lv' := [.ref 36, iV l1, iV l2, iV (l3 + 1)]) (pc := 76) (dec_at lsk_108 (k := 42) rfl) rfl (by decide) rfl ?_
      refine u_goto (pc := 79) (tgt := 10) (dec_at lsk_108 (k := 43) rfl) rfl ?_
      exact h
  · have h := ifF e4 h
    refine u_ld (v := iV 0) (pc := 82) (dec_at lsk_108 (k := 44) rfl) rfl ?_
    refine u_sto (lv' := [.ref 36, iV l1, iV l2, iV 0]) (pc := 83) (dec_at lsk_108 (k := 45) rfl) rfl ?_
    exact u_weak (sbK (sbD (sbK (sbK sb0)))) h
theorem k_108_84 {d : Nat} {Q : uS → Prop} {u : uS} {l2 l3 : Int} (h : (isO (u.2 36 0) 2) ∧ ((rI l3) ∧ ((rI (u.1 (u.2 36 0) 0)) ∧ (if l3 < u.1 (u.2 36 0) 0 then ((0 ≤ l3) ∧ ((l3 < 10) ∧ (if iand (ior (u.1 50 l3) (ishl 1 l3)) l2 = 0 then (∀ u8 : uS, u8 = wr u 47 l3 (u.1 55 l3) → (K_108 (d + 1) 84 [.ref 36, .retAddr 0, iV l2, iV (l3 + 1)] [] u8 Q)) else (K_108 (d + 1) 84 [.ref 36, .retAddr 0, iV l2, iV (l3 + 1)] [] u Q)))) else (Q u))))) : K_108 (d + 1) 84 [.ref 36, .retAddr 0, iV l2, iV l3] [] u Q := by
  unfold K_108
  refine u_ld (v := iV l3) (pc := 84) (dec_at lsk_108 (k := 46) rfl) rfl ?_
  refine u_ld (v := .ref 36) (pc := 85) (dec_at lsk_108 (k := 47) rfl) rfl ?_
  refine u_gR (z := 0) (pc := 86) (dec_at lsk_108 (k := 48) rfl) f_4_12 sx_36 rfl rfl ?_
  have g1 := h.1
  have h := h.2
  refine u_gI (z := 0) (pc := 89) (dec_at lsk_108 (k := 49) rfl) f_4_75 g1 rfl rfl ?_
  have g2 := h.1
  have h := h.2
  have g3 := h.1
  have h := h.2
  refine u_icF (pc := 92) (tgt := 128) (dec_at lsk_108 (k := 50) rfl) rfl (ci_ge g2 g3) (fun e4 => ?_) (fun e4 => ?_)
  · have h := ifT e4 h
    refine u_ld (v := .ref 36) (pc := 95) (dec_at lsk_108 (k := 51) rfl) rfl ?_
    refine u_gS (o := 14) (p := 50) (pc := 96) (dec_at lsk_108 (k := 52) rfl) f_4_32 sx_36 rfl rfl ?_
    refine u_ld (v := iV l3) (pc := 99) (dec_at lsk_108 (k := 53) rfl) rfl ?_
    have g5 := h.1
    have h := h.2
    have g6 := h.1
    have h := h.2
    refine u_iald (pc := 100) (dec_at lsk_108 (k := 54) rfl) sx_50 g5 g6 ?_
    refine u_ld (v := iV 1) (pc := 101) (dec_at lsk_108 (k := 55) rfl) rfl ?_
    refine u_ld (v := iV l3) (pc := 102) (dec_at lsk_108 (k := 56) rfl) rfl ?_
    refine u_ishl (pc := 103) (dec_at lsk_108 (k := 57) rfl) ?_
    refine u_ior (pc := 104) (dec_at lsk_108 (k := 58) rfl) ?_
    refine u_ld (v := iV l2) (pc := 105) (dec_at lsk_108 (k := 59) rfl) rfl ?_
    refine u_iand (pc := 106) (dec_at lsk_108 (k := 60) rfl) ?_
    refine u_ifF (pc := 107) (tgt := 122) (dec_at lsk_108 (k := 61) rfl) rfl (c0_ne (ri_toInt _)) (fun e7 => ?_) (fun e7 => ?_)
    · have h := ifT e7 h
      refine u_ld (v := .ref 36) (pc := 110) (dec_at lsk_108 (k := 62) rfl) rfl ?_
      refine u_gS (o := 11) (p := 47) (pc := 111) (dec_at lsk_108 (k := 63) rfl) f_4_22 sx_36 rfl rfl ?_
      refine u_ld (v := iV l3) (pc := 114) (dec_at lsk_108 (k := 64) rfl) rfl ?_
      refine u_ld (v := .ref 36) (pc := 115) (dec_at lsk_108 (k := 65) rfl) rfl ?_
      refine u_gS (o := 19) (p := 55) (pc := 116) (dec_at lsk_108 (k := 66) rfl) f_4_47 sx_36 rfl rfl ?_
      refine u_ld (v := iV l3) (pc := 119) (dec_at lsk_108 (k := 67) rfl) rfl ?_
      refine u_lald (pc := 120) (dec_at lsk_108 (k := 68) rfl) sx_55 g5 g6 ?_
      refine u_last (pc := 121) (dec_at lsk_108 (k := 69) rfl) sx_47 g5 g6 (fun u8 e9 => ?_)
      have h := h u8 e9
      refine u_inc (lv' := [.ref 36, .retAddr 0, iV l2, iV (l3 + 1)]) (pc := 122) (dec_at lsk_108 (k := 70) rfl) rfl (by decide) rfl ?_
      refine u_goto (pc := 125) (tgt := 84) (dec_at lsk_108 (k := 71) rfl) rfl ?_
      exact h
    · have h := ifF e7 h
      refine u_inc (lv' := [.ref 36, .retAddr 0, iV l2, iV (l3 + 1)]) (pc := 122) (dec_at lsk_108 (k := 70) rfl) rfl (by decide) rfl ?_
      refine u_goto (pc := 125) (tgt := 84) (dec_at lsk_108 (k := 71) rfl) rfl ?_
      exact h
  · have h := ifF e4 h
    exact u_rV (pc := 128) (dec_at lsk_108 (k := 72) rfl) rfl h
/-- method 109 -/
def K_109 (d pc : Nat) (lv : ev_L) (st : List Value) (u : uS) (Q : Int → uS → Prop) : Prop := okU d 4 7 false (some .long) prog_11_method_12_code (qL Q) pc lv st u
theorem e_109 {d : Nat} {Q : Int → uS → Prop} {u : uS} {l1 l2 l3 : Int} (h : K_109 (d + 1) 6 [.ref 36, iV l1, .retAddr 0, iV l3, lV 1, .retAddr 0, iV l2] [] u Q) : cL (d + 2) 109 [.ref 36, iV l1, iV l2, iV l3] u Q := by
  refine u_of me_109 (Nat.le_of_ble_eq_true rfl) ?_
  refine u_cl (x := 1) (pc := 0) (dec_at lsk_109 (k := 0) rfl) rfl (by decide) ?_
  refine u_sto (lv' := [.ref 36, iV l1, iV l2, iV l3, lV 1, .retAddr 0, .retAddr 0]) (pc := 1) (dec_at lsk_109 (k := 1) rfl) rfl ?_
  refine u_ld (v := iV l2) (pc := 3) (dec_at lsk_109 (k := 2) rfl) rfl ?_
  refine u_sto (lv' := [.ref 36, iV l1, iV l2, iV l3, lV 1, .retAddr 0, iV l2]) (pc := 4) (dec_at lsk_109 (k := 3) rfl) rfl ?_
  exact u_weak (sbK (sbK (sbD (sbK (sbK (sbK (sbK sb0))))))) h
theorem k_109_6 {d : Nat} {Q : Int → uS → Prop} {u : uS} {l1 l3 l4 l6 : Int} (h : (rI l6) ∧ ((rI l3) ∧ (if l6 < l3 then ((isO (u.2 36 0) 2) ∧ ((0 ≤ (l1 * 6) + l6) ∧ (((l1 * 6) + l6 < 180) ∧ ((rI (u.1 ((u.2 36 0) + 4) ((l1 * 6) + l6))) ∧ (if u.1 ((u.2 36 0) + 4) ((l1 * 6) + l6) < 100 then ((cn 9000000000000000000 l4) ∧ ((cn 9000000000000000000 0) ∧ (K_109 (d + 1) 6 [.ref 36, iV l1, .retAddr 0, iV l3, lV (tm 9000000000000000000 l4 0), .retAddr 0, iV (l6 + 1)] [] u Q))) else ((0 ≤ (u.1 ((u.2 36 0) + 4) ((l1 * 6) + l6)) - 100) ∧ (((u.1 ((u.2 36 0) + 4) ((l1 * 6) + l6)) - 100 < 10) ∧ ((cn 9000000000000000000 l4) ∧ ((cn 9000000000000000000 (u.1 47 ((u.1 ((u.2 36 0) + 4) ((l1 * 6) + l6)) - 100))) ∧ (K_109 (d + 1) 6 [.ref 36, iV l1, .retAddr 0, iV l3, lV (tm 9000000000000000000 l4 (u.1 47 ((u.1 ((u.2 36 0) + 4) ((l1 * 6) + l6)) - 100))), .retAddr 0, iV (l6 + 1)] [] u Q)))))))))) else (Q l4 u)))) : K_109 (d + 1) 6 [.ref 36, iV l1, .retAddr 0, iV l3, lV l4, .retAddr 0, iV l6] [] u Q := by
  unfold K_109
  refine u_ld (v := iV l6) (pc := 6) (dec_at lsk_109 (k := 4) rfl) rfl ?_
  refine u_ld (v := iV l3) (pc := 8) (dec_at lsk_109 (k := 5) rfl) rfl ?_
  have g1 := h.1
  have h := h.2
  have g2 := h.1
  have h := h.2
  refine u_icF (pc := 9) (tgt := 39) (dec_at lsk_109 (k := 6) rfl) rfl (ci_ge g1 g2) (fun e3 => ?_) (fun e3 => ?_)
  · have h := ifT e3 h
    refine u_ld (v := lV l4) (pc := 12) (dec_at lsk_109 (k := 7) rfl) rfl ?_
    refine u_ld (v := .ref 36) (pc := 14) (dec_at lsk_109 (k := 8) rfl) rfl ?_
    refine u_ld (v := .ref 36) (pc := 15) (dec_at lsk_109 (k := 9) rfl) rfl ?_
    refine u_gR (z := 0) (pc := 16) (dec_at lsk_109 (k := 10) rfl) f_4_12 sx_36 rfl rfl ?_
    refine u_ld (v := iV l1) (pc := 19) (dec_at lsk_109 (k := 11) rfl) rfl ?_
    refine u_ld (v := iV l6) (pc := 20) (dec_at lsk_109 (k := 12) rfl) rfl ?_
    have g4 := h.1
    have h := h.2
    refine u_cvI (As := [iV l1, iV l6]) (rb := u.2 36 0) (st2 := [.ref 36, lV l4]) (pc := 22) (dec_at lsk_109 (k := 13) rfl) m_4_140 (Or.inl rfl) rfl (Nat.le_of_ble_eq_true rfl) g4 me_42 rfl ?_ (fun _ _ h_ => h_)
    refine u_of me_42 (Nat.le_of_ble_eq_true rfl) ?_
    refine u_ld (v := .ref (u.2 36 0)) (pc := 0) (dec_at lsk_42 (k := 0) rfl) rfl ?_
    refine u_gS (o := 4) (p := (u.2 36 0) + 4) (pc := 1) (dec_at lsk_42 (k := 1) rfl) f_2_21 g4 rfl rfl ?_
    refine u_ld (v := iV l1) (pc := 4) (dec_at lsk_42 (k := 2) rfl) rfl ?_
    refine u_c (x := 6) (pc := 5) (dec_at lsk_42 (k := 3) rfl) rfl (by decide) ?_
    refine u_imul (pc := 7) (dec_at lsk_42 (k := 4) rfl) ?_
    refine u_ld (v := iV l6) (pc := 8) (dec_at lsk_42 (k := 5) rfl) rfl ?_
    refine u_iadd (pc := 9) (dec_at lsk_42 (k := 6) rfl) ?_
    have g5 := h.1
    have h := h.2
    have g6 := h.1
    have h := h.2
    refine u_iald (pc := 10) (dec_at lsk_42 (k := 7) rfl) (sa_2_5 g4) g5 g6 ?_
    refine u_rI (pc := 11) (dec_at lsk_42 (k := 8) rfl) rfl ?_
    refine u_cvL (As := [iV (u.1 ((u.2 36 0) + 4) ((l1 * 6) + l6))]) (rb := 36) (st2 := [lV l4]) (pc := 25) (dec_at lsk_109 (k := 14) rfl) m_4_147 (Or.inl rfl) rfl (Nat.le_of_ble_eq_true rfl) sx_36 me_110 rfl ?_ (fun _ _ h_ => h_)
    refine u_of me_110 (Nat.le_of_ble_eq_true rfl) ?_
    refine u_ld (v := iV (u.1 ((u.2 36 0) + 4) ((l1 * 6) + l6))) (pc := 0) (dec_at lsk_110 (k := 0) rfl) rfl ?_
    refine u_c (x := 100) (pc := 1) (dec_at lsk_110 (k := 1) rfl) rfl (by decide) ?_
    have g7 := h.1
    have h := h.2
    refine u_icF (pc := 3) (tgt := 10) (dec_at lsk_110 (k := 2) rfl) rfl (ci_ge g7 (by decide)) (fun e8 => ?_) (fun e8 => ?_)
    · have h := ifT e8 h
      refine u_cl (x := 0) (pc := 6) (dec_at lsk_110 (k := 3) rfl) rfl (by decide) ?_
      refine u_goto (pc := 7) (tgt := 19) (dec_at lsk_110 (k := 4) rfl) rfl ?_
      refine u_rL (pc := 19) (dec_at lsk_110 (k := 11) rfl) rfl ?_
      have g9 := h.1
      have h := h.2
      have g10 := h.1
      have h := h.2
      refine u_csL (As := [lV l4, lV 0]) (st2 := []) (pc := 28) (dec_at lsk_109 (k := 15) rfl) m_4_151 (Or.inr rfl) rfl (Nat.le_of_ble_eq_true rfl) (p_111 g9 g10) (fun r_ u_ h_ => ?_)
      rw [h_.1, h_.2]
      refine u_sto (lv' := [.ref 36, iV l1, .retAddr 0, iV l3, lV (tm 9000000000000000000 l4 0), .retAddr 0, iV l6]) (pc := 31) (dec_at lsk_109 (k := 16) rfl) rfl ?_
      refine u_inc (lv' := [.ref 36, iV l1, .retAddr 0, iV l3, lV (tm 9000000000000000000 l4 0), .retAddr 0, iV (l6 + 1)]) (pc := 33) (dec_at lsk_109 (k := 17) rfl) rfl (by decide) rfl ?_
      refine u_goto (pc := 36) (tgt := 6) (dec_at lsk_109 (k := 18) rfl) rfl ?_
      exact h
    · have h := ifF e8 h
      refine u_ld (v := .ref 36) (pc := 10) (dec_at lsk_110 (k := 5) rfl) rfl ?_
      refine u_gS (o := 11) (p := 47) (pc := 11) (dec_at lsk_110 (k := 6) rfl) f_4_22 sx_36 rfl rfl ?_
      refine u_ld (v := iV (u.1 ((u.2 36 0) + 4) ((l1 * 6) + l6))) (pc := 14) (dec_at lsk_110 (k := 7) rfl) rfl ?_
      refine u_c (x := 100) (pc := 15) (dec_at lsk_110 (k := 8) rfl) rfl (by decide) ?_
      refine u_isub (pc := 17) (dec_at lsk_110 (k := 9) rfl) ?_
      have g11 := h.1
      have h := h.2
      have g12 := h.1
      have h := h.2
      refine u_lald (pc := 18) (dec_at lsk_110 (k := 10) rfl) sx_47 g11 g12 ?_
      refine u_rL (pc := 19) (dec_at lsk_110 (k := 11) rfl) rfl ?_
      have g13 := h.1
      have h := h.2
      have g14 := h.1
      have h := h.2
      refine u_csL (As := [lV l4, lV (u.1 47 ((u.1 ((u.2 36 0) + 4) ((l1 * 6) + l6)) - 100))]) (st2 := []) (pc := 28) (dec_at lsk_109 (k := 15) rfl) m_4_151 (Or.inr rfl) rfl (Nat.le_of_ble_eq_true rfl) (p_111 g13 g14) (fun r_ u_ h_ => ?_)
      rw [h_.1, h_.2]
      refine u_sto (lv' := [.ref 36, iV l1, .retAddr 0, iV l3, lV (tm 9000000000000000000 l4 (u.1 47 ((u.1 ((u.2 36 0) + 4) ((l1 * 6) + l6)) - 100))), .retAddr 0, iV l6]) (pc := 31) (dec_at lsk_109 (k := 16) rfl) rfl ?_
      refine u_inc (lv' := [.ref 36, iV l1, .retAddr 0, iV l3, lV (tm 9000000000000000000 l4 (u.1 47 ((u.1 ((u.2 36 0) + 4) ((l1 * 6) + l6)) - 100))), .retAddr 0, iV (l6 + 1)]) (pc := 33) (dec_at lsk_109 (k := 17) rfl) rfl (by decide) rfl ?_
      refine u_goto (pc := 36) (tgt := 6) (dec_at lsk_109 (k := 18) rfl) rfl ?_
      exact h
  · have h := ifF e3 h
    refine u_ld (v := lV l4) (pc := 39) (dec_at lsk_109 (k := 19) rfl) rfl ?_
    exact u_rL (pc := 41) (dec_at lsk_109 (k := 20) rfl) rfl h
/-- method 112 -/
def K_112 (d pc : Nat) (lv : ev_L) (st : List Value) (u : uS) (Q : uS → Prop) : Prop := okU d 4 3 false none prog_11_method_14_code (qV Q) pc lv st u
theorem e_112 {d : Nat} {Q : uS → Prop} {u : uS} (h : K_112 d 2 [.ref 36, iV 0, .retAddr 0] [] u Q) : cV (d + 1) 112 [.ref 36] u Q := by
  refine u_of me_112 (Nat.le_of_ble_eq_true rfl) ?_
  refine u_ld (v := iV 0) (pc := 0) (dec_at lsk_112 (k := 0) rfl) rfl ?_
  refine u_sto (lv' := [.ref 36, iV 0, .retAddr 0]) (pc := 1) (dec_at lsk_112 (k := 1) rfl) rfl ?_
  exact h
theorem k_112_2 {d : Nat} {Q : uS → Prop} {u : uS} {l1 : Int} (h : (isO (u.2 36 0) 2) ∧ ((rI l1) ∧ ((rI (u.1 (u.2 36 0) 1)) ∧ (if l1 < u.1 (u.2 36 0) 1 then (K_112 d 15 [.ref 36, iV l1, iV 0] [] u Q) else (Q u))))) : K_112 d 2 [.ref 36, iV l1, .retAddr 0] [] u Q := by
  unfold K_112
  refine u_ld (v := iV l1) (pc := 2) (dec_at lsk_112 (k := 2) rfl) rfl ?_
  refine u_ld (v := .ref 36) (pc := 3) (dec_at lsk_112 (k := 3) rfl) rfl ?_
  refine u_gR (z := 0) (pc := 4) (dec_at lsk_112 (k := 4) rfl) f_4_12 sx_36 rfl rfl ?_
  have g1 := h.1
  have h := h.2
  refine u_gI (z := 1) (pc := 7) (dec_at lsk_112 (k := 5) rfl) f_4_103 g1 rfl rfl ?_
  have g2 := h.1
  have h := h.2
  have g3 := h.1
  have h := h.2
  refine u_icF (pc := 10) (tgt := 58) (dec_at lsk_112 (k := 6) rfl) rfl (ci_ge g2 g3) (fun e4 => ?_) (fun e4 => ?_)
  · have h := ifT e4 h
    refine u_ld (v := iV 0) (pc := 13) (dec_at lsk_112 (k := 7) rfl) rfl ?_
    refine u_sto (lv' := [.ref 36, iV l1, iV 0]) (pc := 14) (dec_at lsk_112 (k := 8) rfl) rfl ?_
    exact h
  · have h := ifF e4 h
    exact u_rV (pc := 58) (dec_at lsk_112 (k := 33) rfl) rfl h
theorem k_112_15 {d : Nat} {Q : uS → Prop} {u : uS} {l1 l2 : Int} (h : (isO (u.2 36 0) 2) ∧ ((0 ≤ l1) ∧ ((l1 < 30) ∧ ((rI l2) ∧ ((rI (u.1 ((u.2 36 0) + 3) l1)) ∧ (if u.1 ((u.2 36 0) + 3) l1 < l2 then (K_112 d 2 [.ref 36, iV (l1 + 1), .retAddr 0] [] u Q) else (cL d 109 [.ref 36, iV l1, iV 0, iV l2] u (fun r8 u7 => (0 ≤ (l1 * 7) + l2) ∧ (((l1 * 7) + l2 < 210) ∧ (∀ u11 : uS, u11 = wr u7 48 ((l1 * 7) + l2) r8 → (K_112 d 15 [.ref 36, iV l1, iV (l2 + 1)] [] u11 Q))))))))))) : K_112 d 15 [.ref 36, iV l1, iV l2] [] u Q := by
  unfold K_112
  refine u_ld (v := iV l2) (pc := 15) (dec_at lsk_112 (k := 9) rfl) rfl ?_
  refine u_ld (v := .ref 36) (pc := 16) (dec_at lsk_112 (k := 10) rfl) rfl ?_
  refine u_gR (z := 0) (pc := 17) (dec_at lsk_112 (k := 11) rfl) f_4_12 sx_36 rfl rfl ?_
  have g1 := h.1
  have h := h.2
  refine u_gS (o := 3) (p := (u.2 36 0) + 3) (pc := 20) (dec_at lsk_112 (k := 12) rfl) f_4_129 g1 rfl rfl ?_
  refine u_ld (v := iV l1) (pc := 23) (dec_at lsk_112 (k := 13) rfl) rfl ?_
  have g2 := h.1
  have h := h.2
  have g3 := h.1
  have h := h.2
  refine u_iald (pc := 24) (dec_at lsk_112 (k := 14) rfl) (sa_2_4 g1) g2 g3 ?_
  have g4 := h.1
  have h := h.2
  have g5 := h.1
  have h := h.2
  refine u_icT (pc := 25) (tgt := 52) (dec_at lsk_112 (k := 15) rfl) rfl (ci_gt g4 g5) (fun e6 => ?_) (fun e6 => ?_)
  · have h := ifT e6 h
    refine u_inc (lv' := [.ref 36, iV (l1 + 1), iV l2]) (pc := 52) (dec_at lsk_112 (k := 31) rfl) rfl (by decide) rfl ?_
    refine u_goto (pc := 55) (tgt := 2) (dec_at lsk_112 (k := 32) rfl) rfl ?_
    exact u_weak (sbK (sbK (sbD sb0))) h
  · have h := ifF e6 h
    refine u_ld (v := .ref 36) (pc := 28) (dec_at lsk_112 (k := 16) rfl) rfl ?_
    refine u_gS (o := 12) (p := 48) (pc := 29) (dec_at lsk_112 (k := 17) rfl) f_4_26 sx_36 rfl rfl ?_
    refine u_ld (v := iV l1) (pc := 32) (dec_at lsk_112 (k := 18) rfl) rfl ?_
    refine u_c (x := 7) (pc := 33) (dec_at lsk_112 (k := 19) rfl) rfl (by decide) ?_
    refine u_imul (pc := 35) (dec_at lsk_112 (k := 20) rfl) ?_
    refine u_ld (v := iV l2) (pc := 36) (dec_at lsk_112 (k := 21) rfl) rfl ?_
    refine u_iadd (pc := 37) (dec_at lsk_112 (k := 22) rfl) ?_
    refine u_ld (v := .ref 36) (pc := 38) (dec_at lsk_112 (k := 23) rfl) rfl ?_
    refine u_ld (v := iV l1) (pc := 39) (dec_at lsk_112 (k := 24) rfl) rfl ?_
    refine u_ld (v := iV 0) (pc := 40) (dec_at lsk_112 (k := 25) rfl) rfl ?_
    refine u_ld (v := iV l2) (pc := 41) (dec_at lsk_112 (k := 26) rfl) rfl ?_
    refine u_cvL (As := [iV l1, iV 0, iV l2]) (rb := 36) (st2 := [iV ((l1 * 7) + l2), .ref 48]) (pc := 42) (dec_at lsk_112 (k := 27) rfl) m_4_132 (Or.inl rfl) rfl (Nat.le_of_ble_eq_true rfl) sx_36 me_109 rfl h (fun r8 u7 h => ?_)
    have g9 := h.1
    have h := h.2
    have g10 := h.1
    have h := h.2
    refine u_last (pc := 45) (dec_at lsk_112 (k := 28) rfl) sx_48 g9 g10 (fun u11 e12 => ?_)
    have h := h u11 e12
    refine u_inc (lv' := [.ref 36, iV l1, iV (l2 + 1)]) (pc := 46) (dec_at lsk_112 (k := 29) rfl) rfl (by decide) rfl ?_
    refine u_goto (pc := 49) (tgt := 15) (dec_at lsk_112 (k := 30) rfl) rfl ?_
    exact h
/-- method 113 -/
def K_113 (d pc : Nat) (lv : ev_L) (st : List Value) (u : uS) (Q : uS → Prop) : Prop := okU d 4 7 false none prog_11_method_15_code (qV Q) pc lv st u
theorem e_113 {d : Nat} {Q : uS → Prop} {u : uS} (h : ∀ u1 : uS, u1 = fil u 49 0 100 0 → (∀ u3 : uS, u3 = fil u1 50 0 10 0 → (K_113 (d + 1) 18 [.ref 36, iV 0, .retAddr 0, .retAddr 0, .retAddr 0, .retAddr 0, .retAddr 0] [] u3 Q))) : cV (d + 2) 113 [.ref 36] u Q := by
  refine u_of me_113 (Nat.le_of_ble_eq_true rfl) ?_
  refine u_ld (v := .ref 36) (pc := 0) (dec_at lsk_113 (k := 0) rfl) rfl ?_
  refine u_gS (o := 13) (p := 49) (pc := 1) (dec_at lsk_113 (k := 1) rfl) f_4_29 sx_36 rfl rfl ?_
  refine u_cl (x := 0) (pc := 4) (dec_at lsk_113 (k := 2) rfl) rfl (by decide) ?_
  refine u_csV (As := [.ref 49, lV 0]) (st2 := []) (pc := 5) (dec_at lsk_113 (k := 3) rfl) m_4_126 (Or.inl rfl) rfl (Nat.le_of_ble_eq_true rfl) (q_49 sx_49) (fun u1 e2 => ?_)
  have h := h u1 e2
  refine u_ld (v := .ref 36) (pc := 8) (dec_at lsk_113 (k := 4) rfl) rfl ?_
  refine u_gS (o := 14) (p := 50) (pc := 9) (dec_at lsk_113 (k := 5) rfl) f_4_32 sx_36 rfl rfl ?_
  refine u_ld (v := iV 0) (pc := 12) (dec_at lsk_113 (k := 6) rfl) rfl ?_
  refine u_csV (As := [.ref 50, iV 0]) (st2 := []) (pc := 13) (dec_at lsk_113 (k := 7) rfl) m_4_97 (Or.inl rfl) rfl (Nat.le_of_ble_eq_true rfl) (q_30 sx_50) (fun u3 e4 => ?_)
  have h := h u3 e4
  refine u_ld (v := iV 0) (pc := 16) (dec_at lsk_113 (k := 8) rfl) rfl ?_
  refine u_sto (lv' := [.ref 36, iV 0, .retAddr 0, .retAddr 0, .retAddr 0, .retAddr 0, .retAddr 0]) (pc := 17) (dec_at lsk_113 (k := 9) rfl) rfl ?_
  exact h
theorem k_113_18 {d : Nat} {Q : uS → Prop} {u : uS} {l1 : Int} (h : (isO (u.2 36 0) 2) ∧ ((rI l1) ∧ ((rI (u.1 (u.2 36 0) 1)) ∧ (if l1 < u.1 (u.2 36 0) 1 then (K_113 (d + 1) 31 [.ref 36, iV l1, iV 0, .retAddr 0, .retAddr 0, .retAddr 0, .retAddr 0] [] u Q) else (cI (d + 1) 107 [.ref 36] u (fun r6 u5 => ∀ u7 : uS, u7 = wr u5 36 8 r6 → (Q u7))))))) : K_113 (d + 1) 18 [.ref 36, iV l1, .retAddr 0, .retAddr 0, .retAddr 0, .retAddr 0, .retAddr 0] [] u Q := by
  unfold K_113
  refine u_ld (v := iV l1) (pc := 18) (dec_at lsk_113 (k := 10) rfl) rfl ?_
  refine u_ld (v := .ref 36) (pc := 19) (dec_at lsk_113 (k := 11) rfl) rfl ?_
  refine u_gR (z := 0) (pc := 20) (dec_at lsk_113 (k := 12) rfl) f_4_12 sx_36 rfl rfl ?_
  have g1 := h.1
  have h := h.2
  refine u_gI (z := 1) (pc := 23) (dec_at lsk_113 (k := 13) rfl) f_4_103 g1 rfl rfl ?_
  have g2 := h.1
  have h := h.2
  have g3 := h.1
  have h := h.2
  refine u_icF (pc := 26) (tgt := 177) (dec_at lsk_113 (k := 14) rfl) rfl (ci_ge g2 g3) (fun e4 => ?_) (fun e4 => ?_)
  · have h := ifT e4 h
    refine u_ld (v := iV 0) (pc := 29) (dec_at lsk_113 (k := 15) rfl) rfl ?_
    refine u_sto (lv' := [.ref 36, iV l1, iV 0, .retAddr 0, .retAddr 0, .retAddr 0, .retAddr 0]) (pc := 30) (dec_at lsk_113 (k := 16) rfl) rfl ?_
    exact h
  · have h := ifF e4 h
    refine u_ld (v := .ref 36) (pc := 177) (dec_at lsk_113 (k := 102) rfl) rfl ?_
    refine u_ld (v := .ref 36) (pc := 178) (dec_at lsk_113 (k := 103) rfl) rfl ?_
    refine u_cvI (As := []) (rb := 36) (st2 := [.ref 36]) (pc := 179) (dec_at lsk_113 (k := 104) rfl) m_4_116 (Or.inl rfl) rfl (Nat.le_of_ble_eq_true rfl) sx_36 me_107 rfl h (fun r6 u5 h => ?_)
    refine u_pI (z := 8) (pc := 182) (dec_at lsk_113 (k := 105) rfl) f_4_157 sx_36 rfl rfl rfl rfl (fun u7 e8 => ?_)
    have h := h u7 e8
    exact u_rV (pc := 185) (dec_at lsk_113 (k := 106) rfl) rfl h
theorem k_113_31 {d : Nat} {Q : uS → Prop} {u : uS} {l1 l2 : Int} (h : (isO (u.2 36 0) 2) ∧ ((0 ≤ l1) ∧ ((l1 < 30) ∧ ((rI l2) ∧ ((rI (u.1 ((u.2 36 0) + 3) l1)) ∧ (if l2 < u.1 ((u.2 36 0) + 3) l1 then ((0 ≤ (l1 * 6) + l2) ∧ (((l1 * 6) + l2 < 180) ∧ ((rI (u.1 ((u.2 36 0) + 4) ((l1 * 6) + l2))) ∧ (if u.1 ((u.2 36 0) + 4) ((l1 * 6) + l2) < 100 then (K_113 (d + 1) 95 [.ref 36, iV l1, iV l2, iV (u.1 ((u.2 36 0) + 4) ((l1 * 6) + l2)), .retAddr 0, .retAddr 0, .retAddr 0] [lV 0] u Q) else ((0 ≤ (l1 * 7) + l2) ∧ (((l1 * 7) + l2 < 210) ∧ (cL (d + 1) 109 [.ref 36, iV l1, iV (l2 + 1), iV (u.1 ((u.2 36 0) + 3) l1)] u (fun r14 u13 => (cn 9000000000000000000 (u.1 48 ((l1 * 7) + l2))) ∧ ((cn 9000000000000000000 r14) ∧ (K_113 (d + 1) 95 [.ref 36, iV l1, iV l2, iV (u.1 ((u.2 36 0) + 4) ((l1 * 6) + l2)), .retAddr 0, .retAddr 0, .retAddr 0] [lV (tm 9000000000000000000 (u.1 48 ((l1 * 7) + l2)) r14)] u13 Q)))))))))) else (K_113 (d + 1) 18 [.ref 36, iV (l1 + 1), .retAddr 0, .retAddr 0, .retAddr 0, .retAddr 0, .retAddr 0] [] u Q))))))) : K_113 (d + 1) 31 [.ref 36, iV l1, iV l2, .retAddr 0, .retAddr 0, .retAddr 0, .retAddr 0] [] u Q := by
  unfold K_113
  refine u_ld (v := iV l2) (pc := 31) (dec_at lsk_113 (k := 17) rfl) rfl ?_
  refine u_ld (v := .ref 36) (pc := 32) (dec_at lsk_113 (k := 18) rfl) rfl ?_
  refine u_gR (z := 0) (pc := 33) (dec_at lsk_113 (k := 19) rfl) f_4_12 sx_36 rfl rfl ?_
  have g1 := h.1
  have h := h.2
  refine u_gS (o := 3) (p := (u.2 36 0) + 3) (pc := 36) (dec_at lsk_113 (k := 20) rfl) f_4_129 g1 rfl rfl ?_
  refine u_ld (v := iV l1) (pc := 39) (dec_at lsk_113 (k := 21) rfl) rfl ?_
  have g2 := h.1
  have h := h.2
  have g3 := h.1
  have h := h.2
  refine u_iald (pc := 40) (dec_at lsk_113 (k := 22) rfl) (sa_2_4 g1) g2 g3 ?_
  have g4 := h.1
  have h := h.2
  have g5 := h.1
  have h := h.2
  refine u_icF (pc := 41) (tgt := 171) (dec_at lsk_113 (k := 23) rfl) rfl (ci_ge g4 g5) (fun e6 => ?_) (fun e6 => ?_)
  · have h := ifT e6 h
    refine u_ld (v := .ref 36) (pc := 44) (dec_at lsk_113 (k := 24) rfl) rfl ?_
    refine u_gR (z := 0) (pc := 45) (dec_at lsk_113 (k := 25) rfl) f_4_12 sx_36 rfl rfl ?_
    refine u_ld (v := iV l1) (pc := 48) (dec_at lsk_113 (k := 26) rfl) rfl ?_
    refine u_ld (v := iV l2) (pc := 49) (dec_at lsk_113 (k := 27) rfl) rfl ?_
    refine u_cvI (As := [iV l1, iV l2]) (rb := u.2 36 0) (st2 := []) (pc := 50) (dec_at lsk_113 (k := 28) rfl) m_4_140 (Or.inl rfl) rfl (Nat.le_of_ble_eq_true rfl) g1 me_42 rfl ?_ (fun _ _ h_ => h_)
    refine u_of me_42 (Nat.le_of_ble_eq_true rfl) ?_
    refine u_ld (v := .ref (u.2 36 0)) (pc := 0) (dec_at lsk_42 (k := 0) rfl) rfl ?_
    refine u_gS (o := 4) (p := (u.2 36 0) + 4) (pc := 1) (dec_at lsk_42 (k := 1) rfl) f_2_21 g1 rfl rfl ?_
    refine u_ld (v := iV l1) (pc := 4) (dec_at lsk_42 (k := 2) rfl) rfl ?_
    refine u_c (x := 6) (pc := 5) (dec_at lsk_42 (k := 3) rfl) rfl (by decide) ?_
    refine u_imul (pc := 7) (dec_at lsk_42 (k := 4) rfl) ?_
    refine u_ld (v := iV l2) (pc := 8) (dec_at lsk_42 (k := 5) rfl) rfl ?_
    refine u_iadd (pc := 9) (dec_at lsk_42 (k := 6) rfl) ?_
    have g7 := h.1
    have h := h.2
    have g8 := h.1
    have h := h.2
    refine u_iald (pc := 10) (dec_at lsk_42 (k := 7) rfl) (sa_2_5 g1) g7 g8 ?_
    refine u_rI (pc := 11) (dec_at lsk_42 (k := 8) rfl) rfl ?_
    refine u_sto (lv' := [.ref 36, iV l1, iV l2, iV (u.1 ((u.2 36 0) + 4) ((l1 * 6) + l2)), .retAddr 0, .retAddr 0, .retAddr 0]) (pc := 53) (dec_at lsk_113 (k := 29) rfl) rfl ?_
    refine u_ld (v := iV (u.1 ((u.2 36 0) + 4) ((l1 * 6) + l2))) (pc := 54) (dec_at lsk_113 (k := 30) rfl) rfl ?_
    refine u_c (x := 100) (pc := 55) (dec_at lsk_113 (k := 31) rfl) rfl (by decide) ?_
    have g9 := h.1
    have h := h.2
    refine u_icF (pc := 57) (tgt := 64) (dec_at lsk_113 (k := 32) rfl) rfl (ci_ge g9 (by decide)) (fun e10 => ?_) (fun e10 => ?_)
    · have h := ifT e10 h
      refine u_cl (x := 0) (pc := 60) (dec_at lsk_113 (k := 33) rfl) rfl (by decide) ?_
      refine u_goto (pc := 61) (tgt := 95) (dec_at lsk_113 (k := 34) rfl) rfl ?_
      exact h
    · have h := ifF e10 h
      refine u_ld (v := .ref 36) (pc := 64) (dec_at lsk_113 (k := 35) rfl) rfl ?_
      refine u_gS (o := 12) (p := 48) (pc := 65) (dec_at lsk_113 (k := 36) rfl) f_4_26 sx_36 rfl rfl ?_
      refine u_ld (v := iV l1) (pc := 68) (dec_at lsk_113 (k := 37) rfl) rfl ?_
      refine u_c (x := 7) (pc := 69) (dec_at lsk_113 (k := 38) rfl) rfl (by decide) ?_
      refine u_imul (pc := 71) (dec_at lsk_113 (k := 39) rfl) ?_
      refine u_ld (v := iV l2) (pc := 72) (dec_at lsk_113 (k := 40) rfl) rfl ?_
      refine u_iadd (pc := 73) (dec_at lsk_113 (k := 41) rfl) ?_
      have g11 := h.1
      have h := h.2
      have g12 := h.1
      have h := h.2
      refine u_lald (pc := 74) (dec_at lsk_113 (k := 42) rfl) sx_48 g11 g12 ?_
      refine u_ld (v := .ref 36) (pc := 75) (dec_at lsk_113 (k := 43) rfl) rfl ?_
      refine u_ld (v := iV l1) (pc := 76) (dec_at lsk_113 (k := 44) rfl) rfl ?_
      refine u_ld (v := iV l2) (pc := 77) (dec_at lsk_113 (k := 45) rfl) rfl ?_
      refine u_ld (v := iV 1) (pc := 78) (dec_at lsk_113 (k := 46) rfl) rfl ?_
      refine u_iadd (pc := 79) (dec_at lsk_113 (k := 47) rfl) ?_
      refine u_ld (v := .ref 36) (pc := 80) (dec_at lsk_113 (k := 48) rfl) rfl ?_
      refine u_gR (z := 0) (pc := 81) (dec_at lsk_113 (k := 49) rfl) f_4_12 sx_36 rfl rfl ?_
      refine u_gS (o := 3) (p := (u.2 36 0) + 3) (pc := 84) (dec_at lsk_113 (k := 50) rfl) f_4_129 g1 rfl rfl ?_
      refine u_ld (v := iV l1) (pc := 87) (dec_at lsk_113 (k := 51) rfl) rfl ?_
      refine u_iald (pc := 88) (dec_at lsk_113 (k := 52) rfl) (sa_2_4 g1) g2 g3 ?_
      refine u_cvL (As := [iV l1, iV (l2 + 1), iV (u.1 ((u.2 36 0) + 3) l1)]) (rb := 36) (st2 := [lV (u.1 48 ((l1 * 7) + l2))]) (pc := 89) (dec_at lsk_113 (k := 53) rfl) m_4_132 (Or.inl rfl) rfl (Nat.le_of_ble_eq_true rfl) sx_36 me_109 rfl h (fun r14 u13 h => ?_)
      have g15 := h.1
      have h := h.2
      have g16 := h.1
      have h := h.2
      refine u_csL (As := [lV (u.1 48 ((l1 * 7) + l2)), lV r14]) (st2 := []) (pc := 92) (dec_at lsk_113 (k := 54) rfl) m_4_151 (Or.inr rfl) rfl (Nat.le_of_ble_eq_true rfl) (p_111 g15 g16) (fun r_ u_ h_ => ?_)
      rw [h_.1, h_.2]
      exact h
  · have h := ifF e6 h
    refine u_inc (lv' := [.ref 36, iV (l1 + 1), iV l2, .retAddr 0, .retAddr 0, .retAddr 0, .retAddr 0]) (pc := 171) (dec_at lsk_113 (k := 100) rfl) rfl (by decide) rfl ?_
    refine u_goto (pc := 174) (tgt := 18) (dec_at lsk_113 (k := 101) rfl) rfl ?_
    exact u_weak (sbK (sbK (sbD (sbK (sbK (sbK (sbK sb0))))))) h
theorem k_113_95 {d : Nat} {Q : uS → Prop} {u : uS} {l1 l2 l3 s0 : Int} (h : (rL s0) ∧ (if s0 = 0 then (K_113 (d + 1) 31 [.ref 36, iV l1, iV (l2 + 1), .retAddr 0, .retAddr 0, .retAddr 0, .retAddr 0] [] u Q) else ((isO (u.2 36 0) 2) ∧ ((0 ≤ l1) ∧ ((l1 < 30) ∧ ((0 ≤ (((u.1 ((u.2 36 0) + 2) l1) * 10) + l3) - 100) ∧ (((((u.1 ((u.2 36 0) + 2) l1) * 10) + l3) - 100 < 100) ∧ ((cn 9000000000000000000 (u.1 49 ((((u.1 ((u.2 36 0) + 2) l1) * 10) + l3) - 100))) ∧ ((cn 9000000000000000000 s0) ∧ (∀ u10 : uS, u10 = wr u 49 ((((u.1 ((u.2 36 0) + 2) l1) * 10) + l3) - 100) (pl 9000000000000000000 (u.1 49 ((((u.1 ((u.2 36 0) + 2) l1) * 10) + l3) - 100)) s0) → ((isO (u10.2 36 0) 2) ∧ ((0 ≤ u10.1 ((u10.2 36 0) + 2) l1) ∧ ((u10.1 ((u10.2 36 0) + 2) l1 < 10) ∧ (∀ u15 : uS, u15 = wr u10 50 (u10.1 ((u10.2 36 0) + 2) l1) (ior (u10.1 50 (u10.1 ((u10.2 36 0) + 2) l1)) (ishl 1 (l3 - 100))) → (K_113 (d + 1) 31 [.ref 36, iV l1, iV (l2 + 1), .retAddr 0, .retAddr 0, .retAddr 0, .retAddr 0] [] u15 Q))))))))))))))) : K_113 (d + 1) 95 [.ref 36, iV l1, iV l2, iV l3, .retAddr 0, .retAddr 0, .retAddr 0] [lV s0] u Q := by
  unfold K_113
  refine u_sto (lv' := [.ref 36, iV l1, iV l2, iV l3, lV s0, .retAddr 0, .retAddr 0]) (pc := 95) (dec_at lsk_113 (k := 55) rfl) rfl ?_
  refine u_ld (v := lV s0) (pc := 97) (dec_at lsk_113 (k := 56) rfl) rfl ?_
  refine u_cl (x := 0) (pc := 99) (dec_at lsk_113 (k := 57) rfl) rfl (by decide) ?_
  refine u_st (st' := [.int (lg_cmp (Int64.ofInt s0) (Int64.ofInt 0))]) (pc := 100) (dec_at lsk_113 (k := 58) rfl) rfl ?_
  have g1 := h.1
  have h := h.2
  refine u_ifT (pc := 101) (tgt := 165) (dec_at lsk_113 (k := 59) rfl) rfl (cl_eq g1 (by decide)) (fun e2 => ?_) (fun e2 => ?_)
  · have h := ifT e2 h
    refine u_inc (lv' := [.ref 36, iV l1, iV (l2 + 1), iV l3, lV s0, .retAddr 0, .retAddr 0]) (pc := 165) (dec_at lsk_113 (k := 98) rfl) rfl (by decide) rfl ?_
    refine u_goto (pc := 168) (tgt := 31) (dec_at lsk_113 (k := 99) rfl) rfl ?_
    exact u_weak (sbK (sbK (sbK (sbD (sbD (sbK (sbK sb0))))))) h
  · have h := ifF e2 h
    refine u_ld (v := .ref 36) (pc := 104) (dec_at lsk_113 (k := 60) rfl) rfl ?_
    refine u_gR (z := 0) (pc := 105) (dec_at lsk_113 (k := 61) rfl) f_4_12 sx_36 rfl rfl ?_
    have g3 := h.1
    have h := h.2
    refine u_gS (o := 2) (p := (u.2 36 0) + 2) (pc := 108) (dec_at lsk_113 (k := 62) rfl) f_4_109 g3 rfl rfl ?_
    refine u_ld (v := iV l1) (pc := 111) (dec_at lsk_113 (k := 63) rfl) rfl ?_
    have g4 := h.1
    have h := h.2
    have g5 := h.1
    have h := h.2
    refine u_iald (pc := 112) (dec_at lsk_113 (k := 64) rfl) (sa_2_3 g3) g4 g5 ?_
    refine u_c (x := 10) (pc := 113) (dec_at lsk_113 (k := 65) rfl) rfl (by decide) ?_
    refine u_imul (pc := 115) (dec_at lsk_113 (k := 66) rfl) ?_
    refine u_ld (v := iV l3) (pc := 116) (dec_at lsk_113 (k := 67) rfl) rfl ?_
    refine u_iadd (pc := 117) (dec_at lsk_113 (k := 68) rfl) ?_
    refine u_c (x := 100) (pc := 118) (dec_at lsk_113 (k := 69) rfl) rfl (by decide) ?_
    refine u_isub (pc := 120) (dec_at lsk_113 (k := 70) rfl) ?_
    refine u_sto (lv' := [.ref 36, iV l1, iV l2, iV l3, lV s0, .retAddr 0, iV ((((u.1 ((u.2 36 0) + 2) l1) * 10) + l3) - 100)]) (pc := 121) (dec_at lsk_113 (k := 71) rfl) rfl ?_
    refine u_ld (v := .ref 36) (pc := 123) (dec_at lsk_113 (k := 72) rfl) rfl ?_
    refine u_gS (o := 13) (p := 49) (pc := 124) (dec_at lsk_113 (k := 73) rfl) f_4_29 sx_36 rfl rfl ?_
    refine u_ld (v := iV ((((u.1 ((u.2 36 0) + 2) l1) * 10) + l3) - 100)) (pc := 127) (dec_at lsk_113 (k := 74) rfl) rfl ?_
    refine u_ld (v := .ref 36) (pc := 129) (dec_at lsk_113 (k := 75) rfl) rfl ?_
    refine u_gS (o := 13) (p := 49) (pc := 130) (dec_at lsk_113 (k := 76) rfl) f_4_29 sx_36 rfl rfl ?_
    refine u_ld (v := iV ((((u.1 ((u.2 36 0) + 2) l1) * 10) + l3) - 100)) (pc := 133) (dec_at lsk_113 (k := 77) rfl) rfl ?_
    have g6 := h.1
    have h := h.2
    have g7 := h.1
    have h := h.2
    refine u_lald (pc := 135) (dec_at lsk_113 (k := 78) rfl) sx_49 g6 g7 ?_
    refine u_ld (v := lV s0) (pc := 136) (dec_at lsk_113 (k := 79) rfl) rfl ?_
    have g8 := h.1
    have h := h.2
    have g9 := h.1
    have h := h.2
    refine u_csL (As := [lV (u.1 49 ((((u.1 ((u.2 36 0) + 2) l1) * 10) + l3) - 100)), lV s0]) (st2 := [iV ((((u.1 ((u.2 36 0) + 2) l1) * 10) + l3) - 100), .ref 49]) (pc := 138) (dec_at lsk_113 (k := 80) rfl) m_4_136 (Or.inr rfl) rfl (Nat.le_of_ble_eq_true rfl) (p_51 g8 g9) (fun r_ u_ h_ => ?_)
    rw [h_.1, h_.2]
    refine u_last (pc := 141) (dec_at lsk_113 (k := 81) rfl) sx_49 g6 g7 (fun u10 e11 => ?_)
    have h := h u10 e11
    refine u_ld (v := .ref 36) (pc := 142) (dec_at lsk_113 (k := 82) rfl) rfl ?_
    refine u_gS (o := 14) (p := 50) (pc := 143) (dec_at lsk_113 (k := 83) rfl) f_4_32 sx_36 rfl rfl ?_
    refine u_ld (v := .ref 36) (pc := 146) (dec_at lsk_113 (k := 84) rfl) rfl ?_
    refine u_gR (z := 0) (pc := 147) (dec_at lsk_113 (k := 85) rfl) f_4_12 sx_36 rfl rfl ?_
    have g12 := h.1
    have h := h.2
    refine u_gS (o := 2) (p := (u10.2 36 0) + 2) (pc := 150) (dec_at lsk_113 (k := 86) rfl) f_4_109 g12 rfl rfl ?_
    refine u_ld (v := iV l1) (pc := 153) (dec_at lsk_113 (k := 87) rfl) rfl ?_
    refine u_iald (pc := 154) (dec_at lsk_113 (k := 88) rfl) (sa_2_3 g12) g4 g5 ?_
    refine u_st (st' := [iV (u10.1 ((u10.2 36 0) + 2) l1), .ref 50, iV (u10.1 ((u10.2 36 0) + 2) l1), .ref 50]) (pc := 155) (dec_at lsk_113 (k := 89) rfl) rfl ?_
    have g13 := h.1
    have h := h.2
    have g14 := h.1
    have h := h.2
    refine u_iald (pc := 156) (dec_at lsk_113 (k := 90) rfl) sx_50 g13 g14 ?_
    refine u_ld (v := iV 1) (pc := 157) (dec_at lsk_113 (k := 91) rfl) rfl ?_
    refine u_ld (v := iV l3) (pc := 158) (dec_at lsk_113 (k := 92) rfl) rfl ?_
    refine u_c (x := 100) (pc := 159) (dec_at lsk_113 (k := 93) rfl) rfl (by decide) ?_
    refine u_isub (pc := 161) (dec_at lsk_113 (k := 94) rfl) ?_
    refine u_ishl (pc := 162) (dec_at lsk_113 (k := 95) rfl) ?_
    refine u_ior (pc := 163) (dec_at lsk_113 (k := 96) rfl) ?_
    refine u_iast (pc := 164) (dec_at lsk_113 (k := 97) rfl) sx_50 g13 g14 (fun u15 e16 => ?_)
    have h := h u15 e16
    refine u_inc (lv' := [.ref 36, iV l1, iV (l2 + 1), iV l3, lV s0, .retAddr 0, iV ((((u.1 ((u.2 36 0) + 2) l1) * 10) + l3) - 100)]) (pc := 165) (dec_at lsk_113 (k := 98) rfl) rfl (by decide) rfl ?_
    refine u_goto (pc := 168) (tgt := 31) (dec_at lsk_113 (k := 99) rfl) rfl ?_
    exact u_weak (sbK (sbK (sbK (sbD (sbD (sbK (sbD sb0))))))) h
/-- method 114 -/
def K_114 (d pc : Nat) (lv : ev_L) (st : List Value) (u : uS) (Q : uS → Prop) : Prop := okU d 4 4 false none prog_11_method_16_code (qV Q) pc lv st u
theorem e_114 {d : Nat} {Q : uS → Prop} {u : uS} {l1 : Int} (h : K_114 (d + 1) 2 [.ref 36, iV l1, iV 0, .retAddr 0] [] u Q) : cV (d + 2) 114 [.ref 36, iV l1] u Q := by
  refine u_of me_114 (Nat.le_of_ble_eq_true rfl) ?_
  refine u_ld (v := iV 0) (pc := 0) (dec_at lsk_114 (k := 0) rfl) rfl ?_
  refine u_sto (lv' := [.ref 36, iV l1, iV 0, .retAddr 0]) (pc := 1) (dec_at lsk_114 (k := 1) rfl) rfl ?_
  exact h
theorem k_114_2 {d : Nat} {Q : uS → Prop} {u : uS} {l1 l2 : Int} (h : (isO (u.2 36 0) 2) ∧ ((rI l2) ∧ ((rI (u.1 (u.2 36 0) 1)) ∧ (if l2 < u.1 (u.2 36 0) 1 then (K_114 (d + 1) 15 [.ref 36, iV l1, iV l2, iV 0] [] u Q) else (K_114 (d + 1) 66 [.ref 36, iV l1, iV (l1 + 1), .retAddr 0] [] u Q))))) : K_114 (d + 1) 2 [.ref 36, iV l1, iV l2, .retAddr 0] [] u Q := by
  unfold K_114
  refine u_ld (v := iV l2) (pc := 2) (dec_at lsk_114 (k := 2) rfl) rfl ?_
  refine u_ld (v := .ref 36) (pc := 3) (dec_at lsk_114 (k := 3) rfl) rfl ?_
  refine u_gR (z := 0) (pc := 4) (dec_at lsk_114 (k := 4) rfl) f_4_12 sx_36 rfl rfl ?_
  have g1 := h.1
  have h := h.2
  refine u_gI (z := 1) (pc := 7) (dec_at lsk_114 (k := 5) rfl) f_4_103 g1 rfl rfl ?_
  have g2 := h.1
  have h := h.2
  have g3 := h.1
  have h := h.2
  refine u_icF (pc := 10) (tgt := 62) (dec_at lsk_114 (k := 6) rfl) rfl (ci_ge g2 g3) (fun e4 => ?_) (fun e4 => ?_)
  · have h := ifT e4 h
    refine u_ld (v := iV 0) (pc := 13) (dec_at lsk_114 (k := 7) rfl) rfl ?_
    refine u_sto (lv' := [.ref 36, iV l1, iV l2, iV 0]) (pc := 14) (dec_at lsk_114 (k := 8) rfl) rfl ?_
    exact h
  · have h := ifF e4 h
    refine u_ld (v := iV l1) (pc := 62) (dec_at lsk_114 (k := 35) rfl) rfl ?_
    refine u_ld (v := iV 1) (pc := 63) (dec_at lsk_114 (k := 36) rfl) rfl ?_
    refine u_iadd (pc := 64) (dec_at lsk_114 (k := 37) rfl) ?_
    refine u_sto (lv' := [.ref 36, iV l1, iV (l1 + 1), .retAddr 0]) (pc := 65) (dec_at lsk_114 (k := 38) rfl) rfl ?_
    exact h
theorem k_114_15 {d : Nat} {Q : uS → Prop} {u : uS} {l1 l2 l3 : Int} (h : (isO (u.2 36 0) 2) ∧ ((0 ≤ l2) ∧ ((l2 < 30) ∧ ((rI l3) ∧ ((rI (u.1 ((u.2 36 0) + 3) l2)) ∧ (if u.1 ((u.2 36 0) + 3) l2 < l3 then (K_114 (d + 1) 2 [.ref 36, iV l1, iV (l2 + 1), .retAddr 0] [] u Q) else ((0 ≤ (l2 * 7) + l3) ∧ (((l2 * 7) + l3 < 210) ∧ ((0 ≤ (((l2 * 7) + l3) * 41) + l1) ∧ (((((l2 * 7) + l3) * 41) + l1 < 8610) ∧ (∀ u11 : uS, u11 = wr u 52 ((((l2 * 7) + l3) * 41) + l1) (u.1 48 ((l2 * 7) + l3)) → (K_114 (d + 1) 15 [.ref 36, iV l1, iV l2, iV (l3 + 1)] [] u11 Q)))))))))))) : K_114 (d + 1) 15 [.ref 36, iV l1, iV l2, iV l3] [] u Q := by
  unfold K_114
  refine u_ld (v := iV l3) (pc := 15) (dec_at lsk_114 (k := 9) rfl) rfl ?_
  refine u_ld (v := .ref 36) (pc := 16) (dec_at lsk_114 (k := 10) rfl) rfl ?_
  refine u_gR (z := 0) (pc := 17) (dec_at lsk_114 (k := 11) rfl) f_4_12 sx_36 rfl rfl ?_
  have g1 := h.1
  have h := h.2
  refine u_gS (o := 3) (p := (u.2 36 0) + 3) (pc := 20) (dec_at lsk_114 (k := 12) rfl) f_4_129 g1 rfl rfl ?_
  refine u_ld (v := iV l2) (pc := 23) (dec_at lsk_114 (k := 13) rfl) rfl ?_
  have g2 := h.1
  have h := h.2
  have g3 := h.1
  have h := h.2
  refine u_iald (pc := 24) (dec_at lsk_114 (k := 14) rfl) (sa_2_4 g1) g2 g3 ?_
  have g4 := h.1
  have h := h.2
  have g5 := h.1
  have h := h.2
  refine u_icT (pc := 25) (tgt := 56) (dec_at lsk_114 (k := 15) rfl) rfl (ci_gt g4 g5) (fun e6 => ?_) (fun e6 => ?_)
  · have h := ifT e6 h
    refine u_inc (lv' := [.ref 36, iV l1, iV (l2 + 1), iV l3]) (pc := 56) (dec_at lsk_114 (k := 33) rfl) rfl (by decide) rfl ?_
    refine u_goto (pc := 59) (tgt := 2) (dec_at lsk_114 (k := 34) rfl) rfl ?_
    exact u_weak (sbK (sbK (sbK (sbD sb0)))) h
  · have h := ifF e6 h
    refine u_ld (v := .ref 36) (pc := 28) (dec_at lsk_114 (k := 16) rfl) rfl ?_
    refine u_gS (o := 16) (p := 52) (pc := 29) (dec_at lsk_114 (k := 17) rfl) f_4_38 sx_36 rfl rfl ?_
    refine u_ld (v := iV l2) (pc := 32) (dec_at lsk_114 (k := 18) rfl) rfl ?_
    refine u_ld (v := iV l3) (pc := 33) (dec_at lsk_114 (k := 19) rfl) rfl ?_
    refine u_ld (v := iV l1) (pc := 34) (dec_at lsk_114 (k := 20) rfl) rfl ?_
    refine u_csI (As := [iV l2, iV l3, iV l1]) (st2 := [.ref 52]) (pc := 35) (dec_at lsk_114 (k := 21) rfl) m_4_160 (Or.inl rfl) rfl (Nat.le_of_ble_eq_true rfl) ?_ (fun _ _ h_ => h_)
    refine u_of me_115 (Nat.le_of_ble_eq_true rfl) ?_
    refine u_ld (v := iV l2) (pc := 0) (dec_at lsk_115 (k := 0) rfl) rfl ?_
    refine u_c (x := 7) (pc := 1) (dec_at lsk_115 (k := 1) rfl) rfl (by decide) ?_
    refine u_imul (pc := 3) (dec_at lsk_115 (k := 2) rfl) ?_
    refine u_ld (v := iV l3) (pc := 4) (dec_at lsk_115 (k := 3) rfl) rfl ?_
    refine u_iadd (pc := 5) (dec_at lsk_115 (k := 4) rfl) ?_
    refine u_c (x := 41) (pc := 6) (dec_at lsk_115 (k := 5) rfl) rfl (by decide) ?_
    refine u_imul (pc := 8) (dec_at lsk_115 (k := 6) rfl) ?_
    refine u_ld (v := iV l1) (pc := 9) (dec_at lsk_115 (k := 7) rfl) rfl ?_
    refine u_iadd (pc := 10) (dec_at lsk_115 (k := 8) rfl) ?_
    refine u_rI (pc := 11) (dec_at lsk_115 (k := 9) rfl) rfl ?_
    refine u_ld (v := .ref 36) (pc := 38) (dec_at lsk_114 (k := 22) rfl) rfl ?_
    refine u_gS (o := 12) (p := 48) (pc := 39) (dec_at lsk_114 (k := 23) rfl) f_4_26 sx_36 rfl rfl ?_
    refine u_ld (v := iV l2) (pc := 42) (dec_at lsk_114 (k := 24) rfl) rfl ?_
    refine u_c (x := 7) (pc := 43) (dec_at lsk_114 (k := 25) rfl) rfl (by decide) ?_
    refine u_imul (pc := 45) (dec_at lsk_114 (k := 26) rfl) ?_
    refine u_ld (v := iV l3) (pc := 46) (dec_at lsk_114 (k := 27) rfl) rfl ?_
    refine u_iadd (pc := 47) (dec_at lsk_114 (k := 28) rfl) ?_
    have g7 := h.1
    have h := h.2
    have g8 := h.1
    have h := h.2
    refine u_lald (pc := 48) (dec_at lsk_114 (k := 29) rfl) sx_48 g7 g8 ?_
    have g9 := h.1
    have h := h.2
    have g10 := h.1
    have h := h.2
    refine u_last (pc := 49) (dec_at lsk_114 (k := 30) rfl) sx_52 g9 g10 (fun u11 e12 => ?_)
    have h := h u11 e12
    refine u_inc (lv' := [.ref 36, iV l1, iV l2, iV (l3 + 1)]) (pc := 50) (dec_at lsk_114 (k := 31) rfl) rfl (by decide) rfl ?_
    refine u_goto (pc := 53) (tgt := 15) (dec_at lsk_114 (k := 32) rfl) rfl ?_
    exact h
theorem k_114_66 {d : Nat} {Q : uS → Prop} {u : uS} {l1 l2 : Int} (h : (rI l2) ∧ ((rI (u.1 36 2)) ∧ (if u.1 36 2 < l2 then (Q u) else (cV (d + 1) 116 [.ref 36, iV l1, iV l2] u (fun u4 => cV (d + 1) 119 [.ref 36] u4 (fun u5 => cV (d + 1) 120 [.ref 36] u5 (fun u6 => K_114 (d + 1) 90 [.ref 36, iV l1, iV l2, iV 0] [] u6 Q))))))) : K_114 (d + 1) 66 [.ref 36, iV l1, iV l2, .retAddr 0] [] u Q := by
  unfold K_114
  refine u_ld (v := iV l2) (pc := 66) (dec_at lsk_114 (k := 39) rfl) rfl ?_
  refine u_ld (v := .ref 36) (pc := 67) (dec_at lsk_114 (k := 40) rfl) rfl ?_
  refine u_gI (z := 2) (pc := 68) (dec_at lsk_114 (k := 41) rfl) f_4_67 sx_36 rfl rfl ?_
  have g1 := h.1
  have h := h.2
  have g2 := h.1
  have h := h.2
  refine u_icT (pc := 71) (tgt := 136) (dec_at lsk_114 (k := 42) rfl) rfl (ci_gt g1 g2) (fun e3 => ?_) (fun e3 => ?_)
  · have h := ifT e3 h
    exact u_rV (pc := 136) (dec_at lsk_114 (k := 77) rfl) rfl h
  · have h := ifF e3 h
    refine u_ld (v := .ref 36) (pc := 74) (dec_at lsk_114 (k := 43) rfl) rfl ?_
    refine u_ld (v := iV l1) (pc := 75) (dec_at lsk_114 (k := 44) rfl) rfl ?_
    refine u_ld (v := iV l2) (pc := 76) (dec_at lsk_114 (k := 45) rfl) rfl ?_
    refine u_cvV (As := [iV l1, iV l2]) (rb := 36) (st2 := []) (pc := 77) (dec_at lsk_114 (k := 46) rfl) m_4_163 (Or.inl rfl) rfl (Nat.le_of_ble_eq_true rfl) sx_36 me_116 rfl h (fun u4 h => ?_)
    refine u_ld (v := .ref 36) (pc := 80) (dec_at lsk_114 (k := 47) rfl) rfl ?_
    refine u_cvV (As := []) (rb := 36) (st2 := []) (pc := 81) (dec_at lsk_114 (k := 48) rfl) m_4_166 (Or.inl rfl) rfl (Nat.le_of_ble_eq_true rfl) sx_36 me_119 rfl h (fun u5 h => ?_)
    refine u_ld (v := .ref 36) (pc := 84) (dec_at lsk_114 (k := 49) rfl) rfl ?_
    refine u_cvV (As := []) (rb := 36) (st2 := []) (pc := 85) (dec_at lsk_114 (k := 50) rfl) m_4_169 (Or.inl rfl) rfl (Nat.le_of_ble_eq_true rfl) sx_36 me_120 rfl h (fun u6 h => ?_)
    refine u_ld (v := iV 0) (pc := 88) (dec_at lsk_114 (k := 51) rfl) rfl ?_
    refine u_sto (lv' := [.ref 36, iV l1, iV l2, iV 0]) (pc := 89) (dec_at lsk_114 (k := 52) rfl) rfl ?_
    exact h
theorem k_114_90 {d : Nat} {Q : uS → Prop} {u : uS} {l1 l2 l3 : Int} (h : (isO (u.2 36 0) 2) ∧ ((rI l3) ∧ ((rI (u.1 (u.2 36 0) 0)) ∧ (if l3 < u.1 (u.2 36 0) 0 then ((rI (u.1 36 3)) ∧ (if u.1 36 3 = 0 then ((0 ≤ l3) ∧ ((l3 < 10) ∧ ((0 ≤ (((((l3 * 41) + l1) - 0) * 41) + l2) - 0) ∧ (((((((l3 * 41) + l1) - 0) * 41) + l2) - 0 < 16810) ∧ (∀ u11 : uS, u11 = wr u 51 ((((((l3 * 41) + l1) - 0) * 41) + l2) - 0) (u.1 55 l3) → (K_114 (d + 1) 90 [.ref 36, iV l1, iV l2, iV (l3 + 1)] [] u11 Q)))))) else ((0 ≤ l3) ∧ ((l3 < 10) ∧ ((0 ≤ (((((l3 * 41) + l1) - l1) * 41) + l2) - l1) ∧ (((((((l3 * 41) + l1) - l1) * 41) + l2) - l1 < 16810) ∧ (∀ u17 : uS, u17 = wr u 51 ((((((l3 * 41) + l1) - l1) * 41) + l2) - l1) (u.1 55 l3) → (K_114 (d + 1) 90 [.ref 36, iV l1, iV l2, iV (l3 + 1)] [] u17 Q)))))))) else (cV (d + 1) 122 [.ref 36, iV l2] u (fun u19 => K_114 (d + 1) 66 [.ref 36, iV l1, iV (l2 + 1), .retAddr 0] [] u19 Q)))))) : K_114 (d + 1) 90 [.ref 36, iV l1, iV l2, iV l3] [] u Q := by
  unfold K_114
  refine u_ld (v := iV l3) (pc := 90) (dec_at lsk_114 (k := 53) rfl) rfl ?_
  refine u_ld (v := .ref 36) (pc := 91) (dec_at lsk_114 (k := 54) rfl) rfl ?_
  refine u_gR (z := 0) (pc := 92) (dec_at lsk_114 (k := 55) rfl) f_4_12 sx_36 rfl rfl ?_
  have g1 := h.1
  have h := h.2
  refine u_gI (z := 0) (pc := 95) (dec_at lsk_114 (k := 56) rfl) f_4_75 g1 rfl rfl ?_
  have g2 := h.1
  have h := h.2
  have g3 := h.1
  have h := h.2
  refine u_icF (pc := 98) (tgt := 125) (dec_at lsk_114 (k := 57) rfl) rfl (ci_ge g2 g3) (fun e4 => ?_) (fun e4 => ?_)
  · have h := ifT e4 h
    refine u_ld (v := .ref 36) (pc := 101) (dec_at lsk_114 (k := 58) rfl) rfl ?_
    refine u_gS (o := 15) (p := 51) (pc := 102) (dec_at lsk_114 (k := 59) rfl) f_4_35 sx_36 rfl rfl ?_
    refine u_ld (v := .ref 36) (pc := 105) (dec_at lsk_114 (k := 60) rfl) rfl ?_
    refine u_ld (v := iV l3) (pc := 106) (dec_at lsk_114 (k := 61) rfl) rfl ?_
    refine u_ld (v := iV l1) (pc := 107) (dec_at lsk_114 (k := 62) rfl) rfl ?_
    refine u_ld (v := iV l2) (pc := 108) (dec_at lsk_114 (k := 63) rfl) rfl ?_
    refine u_cvI (As := [iV l3, iV l1, iV l2]) (rb := 36) (st2 := [.ref 51]) (pc := 109) (dec_at lsk_114 (k := 64) rfl) m_4_78 (Or.inl rfl) rfl (Nat.le_of_ble_eq_true rfl) sx_36 me_118 rfl ?_ (fun _ _ h_ => h_)
    refine u_of me_118 (Nat.le_of_ble_eq_true rfl) ?_
    refine u_ld (v := .ref 36) (pc := 0) (dec_at lsk_118 (k := 0) rfl) rfl ?_
    refine u_gZ (z := 3) (pc := 1) (dec_at lsk_118 (k := 1) rfl) f_4_82 sx_36 rfl rfl ?_
    have g5 := h.1
    have h := h.2
    refine u_ifT (pc := 4) (tgt := 11) (dec_at lsk_118 (k := 2) rfl) rfl (c0_eq g5) (fun e6 => ?_) (fun e6 => ?_)
    · have h := ifT e6 h
      refine u_ld (v := iV 0) (pc := 11) (dec_at lsk_118 (k := 5) rfl) rfl ?_
      refine u_sto (lv' := [.ref 36, iV l3, iV l1, iV l2, iV 0]) (pc := 12) (dec_at lsk_118 (k := 6) rfl) rfl ?_
      refine u_ld (v := iV l3) (pc := 14) (dec_at lsk_118 (k := 7) rfl) rfl ?_
      refine u_c (x := 41) (pc := 15) (dec_at lsk_118 (k := 8) rfl) rfl (by decide) ?_
      refine u_imul (pc := 17) (dec_at lsk_118 (k := 9) rfl) ?_
      refine u_ld (v := iV l1) (pc := 18) (dec_at lsk_118 (k := 10) rfl) rfl ?_
      refine u_iadd (pc := 19) (dec_at lsk_118 (k := 11) rfl) ?_
      refine u_ld (v := iV 0) (pc := 20) (dec_at lsk_118 (k := 12) rfl) rfl ?_
      refine u_isub (pc := 22) (dec_at lsk_118 (k := 13) rfl) ?_
      refine u_c (x := 41) (pc := 23) (dec_at lsk_118 (k := 14) rfl) rfl (by decide) ?_
      refine u_imul (pc := 25) (dec_at lsk_118 (k := 15) rfl) ?_
      refine u_ld (v := iV l2) (pc := 26) (dec_at lsk_118 (k := 16) rfl) rfl ?_
      refine u_iadd (pc := 27) (dec_at lsk_118 (k := 17) rfl) ?_
      refine u_ld (v := iV 0) (pc := 28) (dec_at lsk_118 (k := 18) rfl) rfl ?_
      refine u_isub (pc := 30) (dec_at lsk_118 (k := 19) rfl) ?_
      refine u_rI (pc := 31) (dec_at lsk_118 (k := 20) rfl) rfl ?_
      refine u_ld (v := .ref 36) (pc := 112) (dec_at lsk_114 (k := 65) rfl) rfl ?_
      refine u_gS (o := 19) (p := 55) (pc := 113) (dec_at lsk_114 (k := 66) rfl) f_4_47 sx_36 rfl rfl ?_
      refine u_ld (v := iV l3) (pc := 116) (dec_at lsk_114 (k := 67) rfl) rfl ?_
      have g7 := h.1
      have h := h.2
      have g8 := h.1
      have h := h.2
      refine u_lald (pc := 117) (dec_at lsk_114 (k := 68) rfl) sx_55 g7 g8 ?_
      have g9 := h.1
      have h := h.2
      have g10 := h.1
      have h := h.2
      refine u_last (pc := 118) (dec_at lsk_114 (k := 69) rfl) sx_51 g9 g10 (fun u11 e12 => ?_)
      have h := h u11 e12
      refine u_inc (lv' := [.ref 36, iV l1, iV l2, iV (l3 + 1)]) (pc := 119) (dec_at lsk_114 (k := 70) rfl) rfl (by decide) rfl ?_
      refine u_goto (pc := 122) (tgt := 90) (dec_at lsk_114 (k := 71) rfl) rfl ?_
      exact h
    · have h := ifF e6 h
      refine u_ld (v := iV l1) (pc := 7) (dec_at lsk_118 (k := 3) rfl) rfl ?_
      refine u_goto (pc := 8) (tgt := 12) (dec_at lsk_118 (k := 4) rfl) rfl ?_
      refine u_sto (lv' := [.ref 36, iV l3, iV l1, iV l2, iV l1]) (pc := 12) (dec_at lsk_118 (k := 6) rfl) rfl ?_
      refine u_ld (v := iV l3) (pc := 14) (dec_at lsk_118 (k := 7) rfl) rfl ?_
      refine u_c (x := 41) (pc := 15) (dec_at lsk_118 (k := 8) rfl) rfl (by decide) ?_
      refine u_imul (pc := 17) (dec_at lsk_118 (k := 9) rfl) ?_
      refine u_ld (v := iV l1) (pc := 18) (dec_at lsk_118 (k := 10) rfl) rfl ?_
      refine u_iadd (pc := 19) (dec_at lsk_118 (k := 11) rfl) ?_
      refine u_ld (v := iV l1) (pc := 20) (dec_at lsk_118 (k := 12) rfl) rfl ?_
      refine u_isub (pc := 22) (dec_at lsk_118 (k := 13) rfl) ?_
      refine u_c (x := 41) (pc := 23) (dec_at lsk_118 (k := 14) rfl) rfl (by decide) ?_
      refine u_imul (pc := 25) (dec_at lsk_118 (k := 15) rfl) ?_
      refine u_ld (v := iV l2) (pc := 26) (dec_at lsk_118 (k := 16) rfl) rfl ?_
      refine u_iadd (pc := 27) (dec_at lsk_118 (k := 17) rfl) ?_
      refine u_ld (v := iV l1) (pc := 28) (dec_at lsk_118 (k := 18) rfl) rfl ?_
      refine u_isub (pc := 30) (dec_at lsk_118 (k := 19) rfl) ?_
      refine u_rI (pc := 31) (dec_at lsk_118 (k := 20) rfl) rfl ?_
      refine u_ld (v := .ref 36) (pc := 112) (dec_at lsk_114 (k := 65) rfl) rfl ?_
      refine u_gS (o := 19) (p := 55) (pc := 113) (dec_at lsk_114 (k := 66) rfl) f_4_47 sx_36 rfl rfl ?_
      refine u_ld (v := iV l3) (pc := 116) (dec_at lsk_114 (k := 67) rfl) rfl ?_
      have g13 := h.1
      have h := h.2
      have g14 := h.1
      have h := h.2
      refine u_lald (pc := 117) (dec_at lsk_114 (k := 68) rfl) sx_55 g13 g14 ?_
      have g15 := h.1
      have h := h.2
      have g16 := h.1
      have h := h.2
      refine u_last (pc := 118) (dec_at lsk_114 (k := 69) rfl) sx_51 g15 g16 (fun u17 e18 => ?_)
      have h := h u17 e18
      refine u_inc (lv' := [.ref 36, iV l1, iV l2, iV (l3 + 1)]) (pc := 119) (dec_at lsk_114 (k := 70) rfl) rfl (by decide) rfl ?_
      refine u_goto (pc := 122) (tgt := 90) (dec_at lsk_114 (k := 71) rfl) rfl ?_
      exact h
  · have h := ifF e4 h
    refine u_ld (v := .ref 36) (pc := 125) (dec_at lsk_114 (k := 72) rfl) rfl ?_
    refine u_ld (v := iV l2) (pc := 126) (dec_at lsk_114 (k := 73) rfl) rfl ?_
    refine u_cvV (As := [iV l2]) (rb := 36) (st2 := []) (pc := 127) (dec_at lsk_114 (k := 74) rfl) m_4_172 (Or.inl rfl) rfl (Nat.le_of_ble_eq_true rfl) sx_36 me_122 rfl h (fun u19 h => ?_)
    refine u_inc (lv' := [.ref 36, iV l1, iV (l2 + 1), iV l3]) (pc := 130) (dec_at lsk_114 (k := 75) rfl) rfl (by decide) rfl ?_
    refine u_goto (pc := 133) (tgt := 66) (dec_at lsk_114 (k := 76) rfl) rfl ?_
    exact u_weak (sbK (sbK (sbK (sbD sb0)))) h
/-- method 116 -/
def K_116 (d pc : Nat) (lv : ev_L) (st : List Value) (u : uS) (Q : uS → Prop) : Prop := okU d 4 8 false none prog_11_method_18_code (qV Q) pc lv st u
theorem e_116 {d : Nat} {Q : uS → Prop} {u : uS} {l1 l2 : Int} (h : K_116 (d + 1) 2 [.ref 36, iV l1, iV l2, iV 0, .retAddr 0, .retAddr 0, .retAddr 0, .retAddr 0] [] u Q) : cV (d + 2) 116 [.ref 36, iV l1, iV l2] u Q := by
  refine u_of me_116 (Nat.le_of_ble_eq_true rfl) ?_
  refine u_ld (v := iV 0) (pc := 0) (dec_at lsk_116 (k := 0) rfl) rfl ?_
  refine u_sto (lv' := [.ref 36, iV l1, iV l2, iV 0, .retAddr 0, .retAddr 0, .retAddr 0, .retAddr 0]) (pc := 1) (dec_at lsk_116 (k := 1) rfl) rfl ?_
  exact h
theorem k_116_2 {d : Nat} {Q : uS → Prop} {u : uS} {l1 l2 l3 : Int} (h : (isO (u.2 36 0) 2) ∧ ((rI l3) ∧ ((rI (u.1 (u.2 36 0) 1)) ∧ (if l3 < u.1 (u.2 36 0) 1 then (K_116 (d + 1) 16 [.ref 36, iV l1, iV l2, iV l3, iV 1, .retAddr 0, .retAddr 0, .retAddr 0] [] u Q) else (Q u))))) : K_116 (d + 1) 2 [.ref 36, iV l1, iV l2, iV l3, .retAddr 0, .retAddr 0, .retAddr 0, .retAddr 0] [] u Q := by
  unfold K_116
  refine u_ld (v := iV l3) (pc := 2) (dec_at lsk_116 (k := 2) rfl) rfl ?_
  refine u_ld (v := .ref 36) (pc := 3) (dec_at lsk_116 (k := 3) rfl) rfl ?_
  refine u_gR (z := 0) (pc := 4) (dec_at lsk_116 (k := 4) rfl) f_4_12 sx_36 rfl rfl ?_
  have g1 := h.1
  have h := h.2
  refine u_gI (z := 1) (pc := 7) (dec_at lsk_116 (k := 5) rfl) f_4_103 g1 rfl rfl ?_
  have g2 := h.1
  have h := h.2
  have g3 := h.1
  have h := h.2
  refine u_icF (pc := 10) (tgt := 143) (dec_at lsk_116 (k := 6) rfl) rfl (ci_ge g2 g3) (fun e4 => ?_) (fun e4 => ?_)
  · have h := ifT e4 h
    refine u_ld (v := iV 1) (pc := 13) (dec_at lsk_116 (k := 7) rfl) rfl ?_
    refine u_sto (lv' := [.ref 36, iV l1, iV l2, iV l3, iV 1, .retAddr 0, .retAddr 0, .retAddr 0]) (pc := 14) (dec_at lsk_116 (k := 8) rfl) rfl ?_
    exact h
  · have h := ifF e4 h
    exact u_rV (pc := 143) (dec_at lsk_116 (k := 80) rfl) rfl h
theorem k_116_16 {d : Nat} {Q : uS → Prop} {u : uS} {l1 l2 l3 l4 : Int} (h : (isO (u.2 36 0) 2) ∧ ((0 ≤ l3) ∧ ((l3 < 30) ∧ ((rI l4) ∧ ((rI (u.1 ((u.2 36 0) + 3) l3)) ∧ (if u.1 ((u.2 36 0) + 3) l3 < l4 then (K_116 (d + 1) 2 [.ref 36, iV l1, iV l2, iV (l3 + 1), .retAddr 0, .retAddr 0, .retAddr 0, .retAddr 0] [] u Q) else ((0 ≤ (l3 * 6) + (l4 - 1)) ∧ (((l3 * 6) + (l4 - 1) < 180) ∧ ((rI (u.1 ((u.2 36 0) + 4) ((l3 * 6) + (l4 - 1)))) ∧ (if u.1 ((u.2 36 0) + 4) ((l3 * 6) + (l4 - 1)) < 100 then ((rI (u.1 36 3)) ∧ (if u.1 36 3 = 0 then ((isA (u.2 36 1) 0 40) ∧ ((0 ≤ l2 - 1) ∧ ((l2 - 1 < 40) ∧ ((rI (u.1 (u.2 36 1) (l2 - 1))) ∧ (if u.1 (u.2 36 1) (l2 - 1) = u.1 ((u.2 36 0) + 4) ((l3 * 6) + (l4 - 1)) then ((0 ≤ (((l3 * 7) + (l4 - 1)) * 41) + (l2 - 1)) ∧ (((((l3 * 7) + (l4 - 1)) * 41) + (l2 - 1) < 8610) ∧ ((0 ≤ (l3 * 7) + l4) ∧ (((l3 * 7) + l4 < 210) ∧ (∀ u22 : uS, u22 = wr u 53 ((l3 * 7) + l4) (u.1 52 ((((l3 * 7) + (l4 - 1)) * 41) + (l2 - 1))) → (K_116 (d + 1) 16 [.ref 36, iV l1, iV l2, iV l3, iV (l4 + 1), .retAddr 0, .retAddr 0, .retAddr 0] [] u22 Q)))))) else ((0 ≤ (l3 * 7) + l4) ∧ (((l3 * 7) + l4 < 210) ∧ (∀ u26 : uS, u26 = wr u 53 ((l3 * 7) + l4) 0 → (K_116 (d + 1) 16 [.ref 36, iV l1, iV l2, iV l3, iV (l4 + 1), .retAddr 0, .retAddr 0, .retAddr 0] [] u26 Q))))))))) else ((0 ≤ (((l3 * 7) + (l4 - 1)) * 41) + (l2 - 1)) ∧ (((((l3 * 7) + (l4 - 1)) * 41) + (l2 - 1) < 8610) ∧ ((0 ≤ (l3 * 7) + l4) ∧ (((l3 * 7) + l4 < 210) ∧ (∀ u32 : uS, u32 = wr u 53 ((l3 * 7) + l4) (u.1 52 ((((l3 * 7) + (l4 - 1)) * 41) + (l2 - 1))) → (K_116 (d + 1) 16 [.ref 36, iV l1, iV l2, iV l3, iV (l4 + 1), .retAddr 0, .retAddr 0, .retAddr 0] [] u32 Q)))))))) else (cL (d + 1) 117 [.ref 36, iV ((((l3 * 7) + (l4 - 1)) * 41) + 0), iV ((u.1 ((u.2 36 0) + 4) ((l3 * 6) + (l4 - 1))) - 100), iV l1, iV l2] u (fun r35 u34 => (0 ≤ (l3 * 7) + l4) ∧ (((l3 * 7) + l4 < 210) ∧ (∀ u38 : uS, u38 = wr u34 53 ((l3 * 7) + l4) r35 → (K_116 (d + 1) 16 [.ref 36, iV l1, iV l2, iV l3, iV (l4 + 1), .retAddr 0, .retAddr 0, .retAddr 0] [] u38 Q))))))))))))))) : K_116 (d + 1) 16 [.ref 36, iV l1, iV l2, iV l3, iV l4, .retAddr 0, .retAddr 0, .retAddr 0] [] u Q := by
  unfold K_116
  refine u_ld (v := iV l4) (pc := 16) (dec_at lsk_116 (k := 9) rfl) rfl ?_
  refine u_ld (v := .ref 36) (pc := 18) (dec_at lsk_116 (k := 10) rfl) rfl ?_
  refine u_gR (z := 0) (pc := 19) (dec_at lsk_116 (k := 11) rfl) f_4_12 sx_36 rfl rfl ?_
  have g1 := h.1
  have h := h.2
  refine u_gS (o := 3) (p := (u.2 36 0) + 3) (pc := 22) (dec_at lsk_116 (k := 12) rfl) f_4_129 g1 rfl rfl ?_
  refine u_ld (v := iV l3) (pc := 25) (dec_at lsk_116 (k := 13) rfl) rfl ?_
  have g2 := h.1
  have h := h.2
  have g3 := h.1
  have h := h.2
  refine u_iald (pc := 26) (dec_at lsk_116 (k := 14) rfl) (sa_2_4 g1) g2 g3 ?_
  have g4 := h.1
  have h := h.2
  have g5 := h.1
  have h := h.2
  refine u_icT (pc := 27) (tgt := 137) (dec_at lsk_116 (k := 15) rfl) rfl (ci_gt g4 g5) (fun e6 => ?_) (fun e6 => ?_)
  · have h := ifT e6 h
    refine u_inc (lv' := [.ref 36, iV l1, iV l2, iV (l3 + 1), iV l4, .retAddr 0, .retAddr 0, .retAddr 0]) (pc := 137) (dec_at lsk_116 (k := 78) rfl) rfl (by decide) rfl ?_
    refine u_goto (pc := 140) (tgt := 2) (dec_at lsk_116 (k := 79) rfl) rfl ?_
    exact u_weak (sbK (sbK (sbK (sbK (sbD (sbK (sbK (sbK sb0)))))))) h
  · have h := ifF e6 h
    refine u_ld (v := .ref 36) (pc := 30) (dec_at lsk_116 (k := 16) rfl) rfl ?_
    refine u_gR (z := 0) (pc := 31) (dec_at lsk_116 (k := 17) rfl) f_4_12 sx_36 rfl rfl ?_
    refine u_ld (v := iV l3) (pc := 34) (dec_at lsk_116 (k := 18) rfl) rfl ?_
    refine u_ld (v := iV l4) (pc := 35) (dec_at lsk_116 (k := 19) rfl) rfl ?_
    refine u_ld (v := iV 1) (pc := 37) (dec_at lsk_116 (k := 20) rfl) rfl ?_
    refine u_isub (pc := 38) (dec_at lsk_116 (k := 21) rfl) ?_
    refine u_cvI (As := [iV l3, iV (l4 - 1)]) (rb := u.2 36 0) (st2 := []) (pc := 39) (dec_at lsk_116 (k := 22) rfl) m_4_140 (Or.inl rfl) rfl (Nat.le_of_ble_eq_true rfl) g1 me_42 rfl ?_ (fun _ _ h_ => h_)
    refine u_of me_42 (Nat.le_of_ble_eq_true rfl) ?_
    refine u_ld (v := .ref (u.2 36 0)) (pc := 0) (dec_at lsk_42 (k := 0) rfl) rfl ?_
    refine u_gS (o := 4) (p := (u.2 36 0) + 4) (pc := 1) (dec_at lsk_42 (k := 1) rfl) f_2_21 g1 rfl rfl ?_
    refine u_ld (v := iV l3) (pc := 4) (dec_at lsk_42 (k := 2) rfl) rfl ?_
    refine u_c (x := 6) (pc := 5) (dec_at lsk_42 (k := 3) rfl) rfl (by decide) ?_
    refine u_imul (pc := 7) (dec_at lsk_42 (k := 4) rfl) ?_
    refine u_ld (v := iV (l4 - 1)) (pc := 8) (dec_at lsk_42 (k := 5) rfl) rfl ?_
    refine u_iadd (pc := 9) (dec_at lsk_42 (k := 6) rfl) ?_
    have g7 := h.1
    have h := h.2
    have g8 := h.1
    have h := h.2
    refine u_iald (pc := 10) (dec_at lsk_42 (k := 7) rfl) (sa_2_5 g1) g7 g8 ?_
    refine u_rI (pc := 11) (dec_at lsk_42 (k := 8) rfl) rfl ?_
    refine u_sto (lv' := [.ref 36, iV l1, iV l2, iV l3, iV l4, iV (u.1 ((u.2 36 0) + 4) ((l3 * 6) + (l4 - 1))), .retAddr 0, .retAddr 0]) (pc := 42) (dec_at lsk_116 (k := 23) rfl) rfl ?_
    refine u_cl (x := 0) (pc := 44) (dec_at lsk_116 (k := 24) rfl) rfl (by decide) ?_
    refine u_sto (lv' := [.ref 36, iV l1, iV l2, iV l3, iV l4, iV (u.1 ((u.2 36 0) + 4) ((l3 * 6) + (l4 - 1))), lV 0, .retAddr 0]) (pc := 45) (dec_at lsk_116 (k := 25) rfl) rfl ?_
    refine u_ld (v := iV (u.1 ((u.2 36 0) + 4) ((l3 * 6) + (l4 - 1)))) (pc := 47) (dec_at lsk_116 (k := 26) rfl) rfl ?_
    refine u_c (x := 100) (pc := 49) (dec_at lsk_116 (k := 27) rfl) rfl (by decide) ?_
    have g9 := h.1
    have h := h.2
    refine u_icT (pc := 51) (tgt := 79) (dec_at lsk_116 (k := 28) rfl) rfl (ci_lt g9 (by decide)) (fun e10 => ?_) (fun e10 => ?_)
    · have h := ifT e10 h
      refine u_ld (v := .ref 36) (pc := 79) (dec_at lsk_116 (k := 44) rfl) rfl ?_
      refine u_gZ (z := 3) (pc := 80) (dec_at lsk_116 (k := 45) rfl) f_4_82 sx_36 rfl rfl ?_
      have g11 := h.1
      have h := h.2
      refine u_ifF (pc := 83) (tgt := 99) (dec_at lsk_116 (k := 46) rfl) rfl (c0_ne g11) (fun e12 => ?_) (fun e12 => ?_)
      · have h := ifT e12 h
        refine u_ld (v := .ref 36) (pc := 86) (dec_at lsk_116 (k := 47) rfl) rfl ?_
        refine u_gR (z := 1) (pc := 87) (dec_at lsk_116 (k := 48) rfl) f_4_18 sx_36 rfl rfl ?_
        refine u_ld (v := iV l2) (pc := 90) (dec_at lsk_116 (k := 49) rfl) rfl ?_
        refine u_ld (v := iV 1) (pc := 91) (dec_at lsk_116 (k := 50) rfl) rfl ?_
        refine u_isub (pc := 92) (dec_at lsk_116 (k := 51) rfl) ?_
        have g13 := h.1
        have h := h.2
        have g14 := h.1
        have h := h.2
        have g15 := h.1
        have h := h.2
        refine u_iald (pc := 93) (dec_at lsk_116 (k := 52) rfl) g13 g14 g15 ?_
        refine u_ld (v := iV (u.1 ((u.2 36 0) + 4) ((l3 * 6) + (l4 - 1)))) (pc := 94) (dec_at lsk_116 (k := 53) rfl) rfl ?_
        have g16 := h.1
        have h := h.2
        refine u_icF (pc := 96) (tgt := 117) (dec_at lsk_116 (k := 54) rfl) rfl (ci_ne g16 g9) (fun e17 => ?_) (fun e17 => ?_)
        · have h := ifT e17 h
          refine u_ld (v := .ref 36) (pc := 99) (dec_at lsk_116 (k := 55) rfl) rfl ?_
          refine u_gS (o := 16) (p := 52) (pc := 100) (dec_at lsk_116 (k := 56) rfl) f_4_38 sx_36 rfl rfl ?_
          refine u_ld (v := iV l3) (pc := 103) (dec_at lsk_116 (k := 57) rfl) rfl ?_
          refine u_ld (v := iV l4) (pc := 104) (dec_at lsk_116 (k := 58) rfl) rfl ?_
          refine u_ld (v := iV 1) (pc := 106) (dec_at lsk_116 (k := 59) rfl) rfl ?_
          refine u_isub (pc := 107) (dec_at lsk_116 (k := 60) rfl) ?_
          refine u_ld (v := iV l2) (pc := 108) (dec_at lsk_116 (k := 61) rfl) rfl ?_
          refine u_ld (v := iV 1) (pc := 109) (dec_at lsk_116 (k := 62) rfl) rfl ?_
          refine u_isub (pc := 110) (dec_at lsk_116 (k := 63) rfl) ?_
          refine u_csI (As := [iV l3, iV (l4 - 1), iV (l2 - 1)]) (st2 := [.ref 52]) (pc := 111) (dec_at lsk_116 (k := 64) rfl) m_4_160 (Or.inl rfl) rfl (Nat.le_of_ble_eq_true rfl) ?_ (fun _ _ h_ => h_)
          refine u_of me_115 (Nat.le_of_ble_eq_true rfl) ?_
          refine u_ld (v := iV l3) (pc := 0) (dec_at lsk_115 (k := 0) rfl) rfl ?_
          refine u_c (x := 7) (pc := 1) (dec_at lsk_115 (k := 1) rfl) rfl (by decide) ?_
          refine u_imul (pc := 3) (dec_at lsk_115 (k := 2) rfl) ?_
          refine u_ld (v := iV (l4 - 1)) (pc := 4) (dec_at lsk_115 (k := 3) rfl) rfl ?_
          refine u_iadd (pc := 5) (dec_at lsk_115 (k := 4) rfl) ?_
          refine u_c (x := 41) (pc := 6) (dec_at lsk_115 (k := 5) rfl) rfl (by decide) ?_
          refine u_imul (pc := 8) (dec_at lsk_115 (k := 6) rfl) ?_
          refine u_ld (v := iV (l2 - 1)) (pc := 9) (dec_at lsk_115 (k := 7) rfl) rfl ?_
          refine u_iadd (pc := 10) (dec_at lsk_115 (k := 8) rfl) ?_
          refine u_rI (pc := 11) (dec_at lsk_115 (k := 9) rfl) rfl ?_
          have g18 := h.1
          have h := h.2
          have g19 := h.1
          have h := h.2
          refine u_lald (pc := 114) (dec_at lsk_116 (k := 65) rfl) sx_52 g18 g19 ?_
          refine u_sto (lv' := [.ref 36, iV l1, iV l2, iV l3, iV l4, iV (u.1 ((u.2 36 0) + 4) ((l3 * 6) + (l4 - 1))), lV (u.1 52 ((((l3 * 7) + (l4 - 1)) * 41) + (l2 - 1))), .retAddr 0]) (pc := 115) (dec_at lsk_116 (k := 66) rfl) rfl ?_
          refine u_ld (v := .ref 36) (pc := 117) (dec_at lsk_116 (k := 67) rfl) rfl ?_
          refine u_gS (o := 17) (p := 53) (pc := 118) (dec_at lsk_116 (k := 68) rfl) f_4_41 sx_36 rfl rfl ?_
          refine u_ld (v := iV l3) (pc := 121) (dec_at lsk_116 (k := 69) rfl) rfl ?_
          refine u_c (x := 7) (pc := 122) (dec_at lsk_116 (k := 70) rfl) rfl (by decide) ?_
          refine u_imul (pc := 124) (dec_at lsk_116 (k := 71) rfl) ?_
          refine u_ld (v := iV l4) (pc := 125) (dec_at lsk_116 (k := 72) rfl) rfl ?_
          refine u_iadd (pc := 127) (dec_at lsk_116 (k := 73) rfl) ?_
          refine u_ld (v := lV (u.1 52 ((((l3 * 7) + (l4 - 1)) * 41) + (l2 - 1)))) (pc := 128) (dec_at lsk_116 (k := 74) rfl) rfl ?_
          have g20 := h.1
          have h := h.2
          have g21 := h.1
          have h := h.2
          refine u_last (pc := 130) (dec_at lsk_116 (k := 75) rfl) sx_53 g20 g21 (fun u22 e23 => ?_)
          have h := h u22 e23
          refine u_inc (lv' := [.ref 36, iV l1, iV l2, iV l3, iV (l4 + 1), iV (u.1 ((u.2 36 0) + 4) ((l3 * 6) + (l4 - 1))), lV (u.1 52 ((((l3 * 7) + (l4 - 1)) * 41) + (l2 - 1))), .retAddr 0]) (pc := 131) (dec_at lsk_116 (k := 76) rfl) rfl (by decide) rfl ?_
          refine u_goto (pc := 134) (tgt := 16) (dec_at lsk_116 (k := 77) rfl) rfl ?_
          exact u_weak (sbK (sbK (sbK (sbK (sbK (sbD (sbD (sbK sb0)))))))) h
        · have h := ifF e17 h
          refine u_ld (v := .ref 36) (pc := 117) (dec_at lsk_116 (k := 67) rfl) rfl ?_
          refine u_gS (o := 17) (p := 53) (pc := 118) (dec_at lsk_116 (k := 68) rfl) f_4_41 sx_36 rfl rfl ?_
          refine u_ld (v := iV l3) (pc := 121) (dec_at lsk_116 (k := 69) rfl) rfl ?_
          refine u_c (x := 7) (pc := 122) (dec_at lsk_116 (k := 70) rfl) rfl (by decide) ?_
          refine u_imul (pc := 124) (dec_at lsk_116 (k := 71) rfl) ?_
          refine u_ld (v := iV l4) (pc := 125) (dec_at lsk_116 (k := 72) rfl) rfl ?_
          refine u_iadd (pc := 127) (dec_at lsk_116 (k := 73) rfl) ?_
          refine u_ld (v := lV 0) (pc := 128) (dec_at lsk_116 (k := 74) rfl) rfl ?_
          have g24 := h.1
          have h := h.2
          have g25 := h.1
          have h := h.2
          refine u_last (pc := 130) (dec_at lsk_116 (k := 75) rfl) sx_53 g24 g25 (fun u26 e27 => ?_)
          have h := h u26 e27
          refine u_inc (lv' := [.ref 36, iV l1, iV l2, iV l3, iV (l4 + 1), iV (u.1 ((u.2 36 0) + 4) ((l3 * 6) + (l4 - 1))), lV 0, .retAddr 0]) (pc := 131) (dec_at lsk_116 (k := 76) rfl) rfl (by decide) rfl ?_
          refine u_goto (pc := 134) (tgt := 16) (dec_at lsk_116 (k := 77) rfl) rfl ?_
          exact u_weak (sbK (sbK (sbK (sbK (sbK (sbD (sbD (sbK sb0)))))))) h
      · have h := ifF e12 h
        refine u_ld (v := .ref 36) (pc := 99) (dec_at lsk_116 (k := 55) rfl) rfl ?_
        refine u_gS (o := 16) (p := 52) (pc := 100) (dec_at lsk_116 (k := 56) rfl) f_4_38 sx_36 rfl rfl ?_
        refine u_ld (v := iV l3) (pc := 103) (dec_at lsk_116 (k := 57) rfl) rfl ?_
        refine u_ld (v := iV l4) (pc := 104) (dec_at lsk_116 (k := 58) rfl) rfl ?_
        refine u_ld (v := iV 1) (pc := 106) (dec_at lsk_116 (k := 59) rfl) rfl ?_
        refine u_isub (pc := 107) (dec_at lsk_116 (k := 60) rfl) ?_
        refine u_ld (v := iV l2) (pc := 108) (dec_at lsk_116 (k := 61) rfl) rfl ?_
        refine u_ld (v := iV 1) (pc := 109) (dec_at lsk_116 (k := 62) rfl) rfl ?_
        refine u_isub (pc := 110) (dec_at lsk_116 (k := 63) rfl) ?_
        refine u_csI (As := [iV l3, iV (l4 - 1), iV (l2 - 1)]) (st2 := [.ref 52]) (pc := 111) (dec_at lsk_116 (k := 64) rfl) m_4_160 (Or.inl rfl) rfl (Nat.le_of_ble_eq_true rfl) ?_ (fun _ _ h_ => h_)
        refine u_of me_115 (Nat.le_of_ble_eq_true rfl) ?_
        refine u_ld (v := iV l3) (pc := 0) (dec_at lsk_115 (k := 0) rfl) rfl ?_
        refine u_c (x := 7) (pc := 1) (dec_at lsk_115 (k := 1) rfl) rfl (by decide) ?_
        refine u_imul (pc := 3) (dec_at lsk_115 (k := 2) rfl) ?_
        refine u_ld (v := iV (l4 - 1)) (pc := 4) (dec_at lsk_115 (k := 3) rfl) rfl ?_
        refine u_iadd (pc := 5) (dec_at lsk_115 (k := 4) rfl) ?_
        refine u_c (x := 41) (pc := 6) (dec_at lsk_115 (k := 5) rfl) rfl (by decide) ?_
        refine u_imul (pc := 8) (dec_at lsk_115 (k := 6) rfl) ?_
        refine u_ld (v := iV (l2 - 1)) (pc := 9) (dec_at lsk_115 (k := 7) rfl) rfl ?_
        refine u_iadd (pc := 10) (dec_at lsk_115 (k := 8) rfl) ?_
        refine u_rI (pc := 11) (dec_at lsk_115 (k := 9) rfl) rfl ?_
        have g28 := h.1
        have h := h.2
        have g29 := h.1
        have h := h.2
        refine u_lald (pc := 114) (dec_at lsk_116 (k := 65) rfl) sx_52 g28 g29 ?_
        refine u_sto (lv' := [.ref 36, iV l1, iV l2, iV l3, iV l4, iV (u.1 ((u.2 36 0) + 4) ((l3 * 6) + (l4 - 1))), lV (u.1 52 ((((l3 * 7) + (l4 - 1)) * 41) + (l2 - 1))), .retAddr 0]) (pc := 115) (dec_at lsk_116 (k := 66) rfl) rfl ?_
        refine u_ld (v := .ref 36) (pc := 117) (dec_at lsk_116 (k := 67) rfl) rfl ?_
        refine u_gS (o := 17) (p := 53) (pc := 118) (dec_at lsk_116 (k := 68) rfl) f_4_41 sx_36 rfl rfl ?_
        refine u_ld (v := iV l3) (pc := 121) (dec_at lsk_116 (k := 69) rfl) rfl ?_
        refine u_c (x := 7) (pc := 122) (dec_at lsk_116 (k := 70) rfl) rfl (by decide) ?_
        refine u_imul (pc := 124) (dec_at lsk_116 (k := 71) rfl) ?_
        refine u_ld (v := iV l4) (pc := 125) (dec_at lsk_116 (k := 72) rfl) rfl ?_
        refine u_iadd (pc := 127) (dec_at lsk_116 (k := 73) rfl) ?_
        refine u_ld (v := lV (u.1 52 ((((l3 * 7) + (l4 - 1)) * 41) + (l2 - 1)))) (pc := 128) (dec_at lsk_116 (k := 74) rfl) rfl ?_
        have g30 := h.1
        have h := h.2
        have g31 := h.1
        have h := h.2
        refine u_last (pc := 130) (dec_at lsk_116 (k := 75) rfl) sx_53 g30 g31 (fun u32 e33 => ?_)
        have h := h u32 e33
        refine u_inc (lv' := [.ref 36, iV l1, iV l2, iV l3, iV (l4 + 1), iV (u.1 ((u.2 36 0) + 4) ((l3 * 6) + (l4 - 1))), lV (u.1 52 ((((l3 * 7) + (l4 - 1)) * 41) + (l2 - 1))), .retAddr 0]) (pc := 131) (dec_at lsk_116 (k := 76) rfl) rfl (by decide) rfl ?_
        refine u_goto (pc := 134) (tgt := 16) (dec_at lsk_116 (k := 77) rfl) rfl ?_
        exact u_weak (sbK (sbK (sbK (sbK (sbK (sbD (sbD (sbK sb0)))))))) h
    · have h := ifF e10 h
      refine u_ld (v := .ref 36) (pc := 54) (dec_at lsk_116 (k := 29) rfl) rfl ?_
      refine u_ld (v := iV l3) (pc := 55) (dec_at lsk_116 (k := 30) rfl) rfl ?_
      refine u_ld (v := iV l4) (pc := 56) (dec_at lsk_116 (k := 31) rfl) rfl ?_
      refine u_ld (v := iV 1) (pc := 58) (dec_at lsk_116 (k := 32) rfl) rfl ?_
      refine u_isub (pc := 59) (dec_at lsk_116 (k := 33) rfl) ?_
      refine u_ld (v := iV 0) (pc := 60) (dec_at lsk_116 (k := 34) rfl) rfl ?_
      refine u_csI (As := [iV l3, iV (l4 - 1), iV 0]) (st2 := [.ref 36]) (pc := 61) (dec_at lsk_116 (k := 35) rfl) m_4_160 (Or.inl rfl) rfl (Nat.le_of_ble_eq_true rfl) ?_ (fun _ _ h_ => h_)
      refine u_of me_115 (Nat.le_of_ble_eq_true rfl) ?_
      refine u_ld (v := iV l3) (pc := 0) (dec_at lsk_115 (k := 0) rfl) rfl ?_
      refine u_c (x := 7) (pc := 1) (dec_at lsk_115 (k := 1) rfl) rfl (by decide) ?_
      refine u_imul (pc := 3) (dec_at lsk_115 (k := 2) rfl) ?_
      refine u_ld (v := iV (l4 - 1)) (pc := 4) (dec_at lsk_115 (k := 3) rfl) rfl ?_
      refine u_iadd (pc := 5) (dec_at lsk_115 (k := 4) rfl) ?_
      refine u_c (x := 41) (pc := 6) (dec_at lsk_115 (k := 5) rfl) rfl (by decide) ?_
      refine u_imul (pc := 8) (dec_at lsk_115 (k := 6) rfl) ?_
      refine u_ld (v := iV 0) (pc := 9) (dec_at lsk_115 (k := 7) rfl) rfl ?_
      refine u_iadd (pc := 10) (dec_at lsk_115 (k := 8) rfl) ?_
      refine u_rI (pc := 11) (dec_at lsk_115 (k := 9) rfl) rfl ?_
      refine u_ld (v := iV (u.1 ((u.2 36 0) + 4) ((l3 * 6) + (l4 - 1)))) (pc := 64) (dec_at lsk_116 (k := 36) rfl) rfl ?_
      refine u_c (x := 100) (pc := 66) (dec_at lsk_116 (k := 37) rfl) rfl (by decide) ?_
      refine u_isub (pc := 68) (dec_at lsk_116 (k := 38) rfl) ?_
      refine u_ld (v := iV l1) (pc := 69) (dec_at lsk_116 (k := 39) rfl) rfl ?_
      refine u_ld (v := iV l2) (pc := 70) (dec_at lsk_116 (k := 40) rfl) rfl ?_
      refine u_cvL (As := [iV ((((l3 * 7) + (l4 - 1)) * 41) + 0), iV ((u.1 ((u.2 36 0) + 4) ((l3 * 6) + (l4 - 1))) - 100), iV l1, iV l2]) (rb := 36) (st2 := []) (pc := 71) (dec_at lsk_116 (k := 41) rfl) m_4_175 (Or.inl rfl) rfl (Nat.le_of_ble_eq_true rfl) sx_36 me_117 rfl h (fun r35 u34 h => ?_)
      refine u_sto (lv' := [.ref 36, iV l1, iV l2, iV l3, iV l4, iV (u.1 ((u.2 36 0) + 4) ((l3 * 6) + (l4 - 1))), lV r35, .retAddr 0]) (pc := 74) (dec_at lsk_116 (k := 42) rfl) rfl ?_
      refine u_goto (pc := 76) (tgt := 117) (dec_at lsk_116 (k := 43) rfl) rfl ?_
      refine u_ld (v := .ref 36) (pc := 117) (dec_at lsk_116 (k := 67) rfl) rfl ?_
      refine u_gS (o := 17) (p := 53) (pc := 118) (dec_at lsk_116 (k := 68) rfl) f_4_41 sx_36 rfl rfl ?_
      refine u_ld (v := iV l3) (pc := 121) (dec_at lsk_116 (k := 69) rfl) rfl ?_
      refine u_c (x := 7) (pc := 122) (dec_at lsk_116 (k := 70) rfl) rfl (by decide) ?_
      refine u_imul (pc := 124) (dec_at lsk_116 (k := 71) rfl) ?_
      refine u_ld (v := iV l4) (pc := 125) (dec_at lsk_116 (k := 72) rfl) rfl ?_
      refine u_iadd (pc := 127) (dec_at lsk_116 (k := 73) rfl) ?_
      refine u_ld (v := lV r35) (pc := 128) (dec_at lsk_116 (k := 74) rfl) rfl ?_
      have g36 := h.1
      have h := h.2
      have g37 := h.1
      have h := h.2
      refine u_last (pc := 130) (dec_at lsk_116 (k := 75) rfl) sx_53 g36 g37 (fun u38 e39 => ?_)
      have h := h u38 e39
      refine u_inc (lv' := [.ref 36, iV l1, iV l2, iV l3, iV (l4 + 1), iV (u.1 ((u.2 36 0) + 4) ((l3 * 6) + (l4 - 1))), lV r35, .retAddr 0]) (pc := 131) (dec_at lsk_116 (k := 76) rfl) rfl (by decide) rfl ?_
      refine u_goto (pc := 134) (tgt := 16) (dec_at lsk_116 (k := 77) rfl) rfl ?_
      exact u_weak (sbK (sbK (sbK (sbK (sbK (sbD (sbD (sbK sb0)))))))) h
/-- method 117 -/
def K_117 (d pc : Nat) (lv : ev_L) (st : List Value) (u : uS) (Q : Int → uS → Prop) : Prop := okU d 4 10 false (some .long) prog_11_method_19_code (qL Q) pc lv st u
theorem e_117 {d : Nat} {Q : Int → uS → Prop} {u : uS} {l1 l2 l3 l4 : Int} (h : K_117 (d + 1) 8 [.ref 36, iV l1, iV l2, .retAddr 0, iV l4, lV 0, .retAddr 0, iV (l3 + 1), .retAddr 0, .retAddr 0] [] u Q) : cL (d + 2) 117 [.ref 36, iV l1, iV l2, iV l3, iV l4] u Q := by
  refine u_of me_117 (Nat.le_of_ble_eq_true rfl) ?_
  refine u_cl (x := 0) (pc := 0) (dec_at lsk_117 (k := 0) rfl) rfl (by decide) ?_
  refine u_sto (lv' := [.ref 36, iV l1, iV l2, iV l3, iV l4, lV 0, .retAddr 0, .retAddr 0, .retAddr 0, .retAddr 0]) (pc := 1) (dec_at lsk_117 (k := 1) rfl) rfl ?_
  refine u_ld (v := iV l3) (pc := 3) (dec_at lsk_117 (k := 2) rfl) rfl ?_
  refine u_ld (v := iV 1) (pc := 4) (dec_at lsk_117 (k := 3) rfl) rfl ?_
  refine u_iadd (pc := 5) (dec_at lsk_117 (k := 4) rfl) ?_
  refine u_sto (lv' := [.ref 36, iV l1, iV l2, iV l3, iV l4, lV 0, .retAddr 0, iV (l3 + 1), .retAddr 0, .retAddr 0]) (pc := 6) (dec_at lsk_117 (k := 5) rfl) rfl ?_
  exact u_weak (sbK (sbK (sbK (sbD (sbK (sbK (sbK (sbK (sbK (sbK sb0)))))))))) h
theorem k_117_8 {d : Nat} {Q : Int → uS → Prop} {u : uS} {l1 l2 l4 l5 l7 : Int} (h : (rI l7) ∧ ((rI l4) ∧ (if l7 < l4 then ((0 ≤ l1 + l7) ∧ ((l1 + l7 < 8610) ∧ ((rL (u.1 52 (l1 + l7))) ∧ (if u.1 52 (l1 + l7) = 0 then (K_117 (d + 1) 8 [.ref 36, iV l1, iV l2, .retAddr 0, iV l4, lV l5, .retAddr 0, iV (l7 + 1), .retAddr 0, .retAddr 0] [] u Q) else ((rI (u.1 36 3)) ∧ (if u.1 36 3 = 0 then ((0 ≤ (((((l2 * 41) + l7) - 0) * 41) + l4) - 0) ∧ (((((((l2 * 41) + l7) - 0) * 41) + l4) - 0 < 16810) ∧ ((cn 9000000000000000000 (u.1 52 (l1 + l7))) ∧ ((cn 9000000000000000000 (u.1 51 ((((((l2 * 41) + l7) - 0) * 41) + l4) - 0))) ∧ ((cn 9000000000000000000 l5) ∧ (K_117 (d + 1) 8 [.ref 36, iV l1, iV l2, .retAddr 0, iV l4, lV (pl 9000000000000000000 l5 (tm 9000000000000000000 (u.1 52 (l1 + l7)) (u.1 51 ((((((l2 * 41) + l7) - 0) * 41) + l4) - 0)))), .retAddr 0, iV (l7 + 1), .retAddr 0, .retAddr 0] [] u Q)))))) else ((0 ≤ (((((l2 * 41) + l7) - l7) * 41) + l4) - l7) ∧ (((((((l2 * 41) + l7) - l7) * 41) + l4) - l7 < 16810) ∧ ((cn 9000000000000000000 (u.1 52 (l1 + l7))) ∧ ((cn 9000000000000000000 (u.1 51 ((((((l2 * 41) + l7) - l7) * 41) + l4) - l7))) ∧ ((cn 9000000000000000000 l5) ∧ (K_117 (d + 1) 8 [.ref 36, iV l1, iV l2, .retAddr 0, iV l4, lV (pl 9000000000000000000 l5 (tm 9000000000000000000 (u.1 52 (l1 + l7)) (u.1 51 ((((((l2 * 41) + l7) - l7) * 41) + l4) - l7)))), .retAddr 0, iV (l7 + 1), .retAddr 0, .retAddr 0] [] u Q)))))))))))) else (Q l5 u)))) : K_117 (d + 1) 8 [.ref 36, iV l1, iV l2, .retAddr 0, iV l4, lV l5, .retAddr 0, iV l7, .retAddr 0, .retAddr 0] [] u Q := by
  unfold K_117
  refine u_ld (v := iV l7) (pc := 8) (dec_at lsk_117 (k := 6) rfl) rfl ?_
  refine u_ld (v := iV l4) (pc := 10) (dec_at lsk_117 (k := 7) rfl) rfl ?_
  have g1 := h.1
  have h := h.2
  have g2 := h.1
  have h := h.2
  refine u_icF (pc := 12) (tgt := 65) (dec_at lsk_117 (k := 8) rfl) rfl (ci_ge g1 g2) (fun e3 => ?_) (fun e3 => ?_)
  · have h := ifT e3 h
    refine u_ld (v := .ref 36) (pc := 15) (dec_at lsk_117 (k := 9) rfl) rfl ?_
    refine u_gS (o := 16) (p := 52) (pc := 16) (dec_at lsk_117 (k := 10) rfl) f_4_38 sx_36 rfl rfl ?_
    refine u_ld (v := iV l1) (pc := 19) (dec_at lsk_117 (k := 11) rfl) rfl ?_
    refine u_ld (v := iV l7) (pc := 20) (dec_at lsk_117 (k := 12) rfl) rfl ?_
    refine u_iadd (pc := 22) (dec_at lsk_117 (k := 13) rfl) ?_
    have g4 := h.1
    have h := h.2
    have g5 := h.1
    have h := h.2
    refine u_lald (pc := 23) (dec_at lsk_117 (k := 14) rfl) sx_52 g4 g5 ?_
    refine u_sto (lv' := [.ref 36, iV l1, iV l2, .retAddr 0, iV l4, lV l5, .retAddr 0, iV l7, lV (u.1 52 (l1 + l7)), .retAddr 0]) (pc := 24) (dec_at lsk_117 (k := 15) rfl) rfl ?_
    refine u_ld (v := lV (u.1 52 (l1 + l7))) (pc := 26) (dec_at lsk_117 (k := 16) rfl) rfl ?_
    refine u_cl (x := 0) (pc := 28) (dec_at lsk_117 (k := 17) rfl) rfl (by decide) ?_
    refine u_st (st' := [.int (lg_cmp (Int64.ofInt (u.1 52 (l1 + l7))) (Int64.ofInt 0))]) (pc := 29) (dec_at lsk_117 (k := 18) rfl) rfl ?_
    have g6 := h.1
    have h := h.2
    refine u_ifT (pc := 30) (tgt := 59) (dec_at lsk_117 (k := 19) rfl) rfl (cl_eq g6 (by decide)) (fun e7 => ?_) (fun e7 => ?_)
    · have h := ifT e7 h
      refine u_inc (lv' := [.ref 36, iV l1, iV l2, .retAddr 0, iV l4, lV l5, .retAddr 0, iV (l7 + 1), lV (u.1 52 (l1 + l7)), .retAddr 0]) (pc := 59) (dec_at lsk_117 (k := 33) rfl) rfl (by decide) rfl ?_
      refine u_goto (pc := 62) (tgt := 8) (dec_at lsk_117 (k := 34) rfl) rfl ?_
      exact u_weak (sbK (sbK (sbK (sbK (sbK (sbK (sbK (sbK (sbD (sbK sb0)))))))))) h
    · have h := ifF e7 h
      refine u_ld (v := lV l5) (pc := 33) (dec_at lsk_117 (k := 20) rfl) rfl ?_
      refine u_ld (v := lV (u.1 52 (l1 + l7))) (pc := 35) (dec_at lsk_117 (k := 21) rfl) rfl ?_
      refine u_ld (v := .ref 36) (pc := 37) (dec_at lsk_117 (k := 22) rfl) rfl ?_
      refine u_gS (o := 15) (p := 51) (pc := 38) (dec_at lsk_117 (k := 23) rfl) f_4_35 sx_36 rfl rfl ?_
      refine u_ld (v := .ref 36) (pc := 41) (dec_at lsk_117 (k := 24) rfl) rfl ?_
      refine u_ld (v := iV l2) (pc := 42) (dec_at lsk_117 (k := 25) rfl) rfl ?_
      refine u_ld (v := iV l7) (pc := 43) (dec_at lsk_117 (k := 26) rfl) rfl ?_
      refine u_ld (v := iV l4) (pc := 45) (dec_at lsk_117 (k := 27) rfl) rfl ?_
      refine u_cvI (As := [iV l2, iV l7, iV l4]) (rb := 36) (st2 := [.ref 51, lV (u.1 52 (l1 + l7)), lV l5]) (pc := 47) (dec_at lsk_117 (k := 28) rfl) m_4_78 (Or.inl rfl) rfl (Nat.le_of_ble_eq_true rfl) sx_36 me_118 rfl ?_ (fun _ _ h_ => h_)
      refine u_of me_118 (Nat.le_of_ble_eq_true rfl) ?_
      refine u_ld (v := .ref 36) (pc := 0) (dec_at lsk_118 (k := 0) rfl) rfl ?_
      refine u_gZ (z := 3) (pc := 1) (dec_at lsk_118 (k := 1) rfl) f_4_82 sx_36 rfl rfl ?_
      have g8 := h.1
      have h := h.2
      refine u_ifT (pc := 4) (tgt := 11) (dec_at lsk_118 (k := 2) rfl) rfl (c0_eq g8) (fun e9 => ?_) (fun e9 => ?_)
      · have h := ifT e9 h
        refine u_ld (v := iV 0) (pc := 11) (dec_at lsk_118 (k := 5) rfl) rfl ?_
        refine u_sto (lv' := [.ref 36, iV l2, iV l7, iV l4, iV 0]) (pc := 12) (dec_at lsk_118 (k := 6) rfl) rfl ?_
        refine u_ld (v := iV l2) (pc := 14) (dec_at lsk_118 (k := 7) rfl) rfl ?_
        refine u_c (x := 41) (pc := 15) (dec_at lsk_118 (k := 8) rfl) rfl (by decide) ?_
        refine u_imul (pc := 17) (dec_at lsk_118 (k := 9) rfl) ?_
        refine u_ld (v := iV l7) (pc := 18) (dec_at lsk_118 (k := 10) rfl) rfl ?_
        refine u_iadd (pc := 19) (dec_at lsk_118 (k := 11) rfl) ?_
        refine u_ld (v := iV 0) (pc := 20) (dec_at lsk_118 (k := 12) rfl) rfl ?_
        refine u_isub (pc := 22) (dec_at lsk_118 (k := 13) rfl) ?_
        refine u_c (x := 41) (pc := 23) (dec_at lsk_118 (k := 14) rfl) rfl (by decide) ?_
        refine u_imul (pc := 25) (dec_at lsk_118 (k := 15) rfl) ?_
        refine u_ld (v := iV l4) (pc := 26) (dec_at lsk_118 (k := 16) rfl) rfl ?_
        refine u_iadd (pc := 27) (dec_at lsk_118 (k := 17) rfl) ?_
        refine u_ld (v := iV 0) (pc := 28) (dec_at lsk_118 (k := 18) rfl) rfl ?_
        refine u_isub (pc := 30) (dec_at lsk_118 (k := 19) rfl) ?_
        refine u_rI (pc := 31) (dec_at lsk_118 (k := 20) rfl) rfl ?_
        have g10 := h.1
        have h := h.2
        have g11 := h.1
        have h := h.2
        refine u_lald (pc := 50) (dec_at lsk_117 (k := 29) rfl) sx_51 g10 g11 ?_
        have g12 := h.1
        have h := h.2
        have g13 := h.1
        have h := h.2
        refine u_csL (As := [lV (u.1 52 (l1 + l7)), lV (u.1 51 ((((((l2 * 41) + l7) - 0) * 41) + l4) - 0))]) (st2 := [lV l5]) (pc := 51) (dec_at lsk_117 (k := 30) rfl) m_4_151 (Or.inr rfl) rfl (Nat.le_of_ble_eq_true rfl) (p_111 g12 g13) (fun r_ u_ h_ => ?_)
        rw [h_.1, h_.2]
        have g14 := h.1
        have h := h.2
        refine u_csL (As := [lV l5, lV (tm 9000000000000000000 (u.1 52 (l1 + l7)) (u.1 51 ((((((l2 * 41) + l7) - 0) * 41) + l4) - 0)))]) (st2 := []) (pc := 54) (dec_at lsk_117 (k := 31) rfl) m_4_136 (Or.inr rfl) rfl (Nat.le_of_ble_eq_true rfl) (p_51 g14 (cn_tm g12 g13)) (fun r_ u_ h_ => ?_)
        rw [h_.1, h_.2]
        refine u_sto (lv' := [.ref 36, iV l1, iV l2, .retAddr 0, iV l4, lV (pl 9000000000000000000 l5 (tm 9000000000000000000 (u.1 52 (l1 + l7)) (u.1 51 ((((((l2 * 41) + l7) - 0) * 41) + l4) - 0)))), .retAddr 0, iV l7, lV (u.1 52 (l1 + l7)), .retAddr 0]) (pc := 57) (dec_at lsk_117 (k := 32) rfl) rfl ?_
        refine u_inc (lv' := [.ref 36, iV l1, iV l2, .retAddr 0, iV l4, lV (pl 9000000000000000000 l5 (tm 9000000000000000000 (u.1 52 (l1 + l7)) (u.1 51 ((((((l2 * 41) + l7) - 0) * 41) + l4) - 0)))), .retAddr 0, iV (l7 + 1), lV (u.1 52 (l1 + l7)), .retAddr 0]) (pc := 59) (dec_at lsk_117 (k := 33) rfl) rfl (by decide) rfl ?_
        refine u_goto (pc := 62) (tgt := 8) (dec_at lsk_117 (k := 34) rfl) rfl ?_
        exact u_weak (sbK (sbK (sbK (sbK (sbK (sbK (sbK (sbK (sbD (sbK sb0)))))))))) h
      · have h := ifF e9 h
        refine u_ld (v := iV l7) (pc := 7) (dec_at lsk_118 (k := 3) rfl) rfl ?_
        refine u_goto (pc := 8) (tgt := 12) (dec_at lsk_118 (k := 4) rfl) rfl ?_
        refine u_sto (lv' := [.ref 36, iV l2, iV l7, iV l4, iV l7]) (pc := 12) (dec_at lsk_118 (k := 6) rfl) rfl ?_
        refine u_ld (v := iV l2) (pc := 14) (dec_at lsk_118 (k := 7) rfl) rfl ?_
        refine u_c (x := 41) (pc := 15) (dec_at lsk_118 (k := 8) rfl) rfl (by decide) ?_
        refine u_imul (pc := 17) (dec_at lsk_118 (k := 9) rfl) ?_
        refine u_ld (v := iV l7) (pc := 18) (dec_at lsk_118 (k := 10) rfl) rfl ?_
        refine u_iadd (pc := 19) (dec_at lsk_118 (k := 11) rfl) ?_
        refine u_ld (v := iV l7) (pc := 20) (dec_at lsk_118 (k := 12) rfl) rfl ?_
        refine u_isub (pc := 22) (dec_at lsk_118 (k := 13) rfl) ?_
        refine u_c (x := 41) (pc := 23) (dec_at lsk_118 (k := 14) rfl) rfl (by decide) ?_
        refine u_imul (pc := 25) (dec_at lsk_118 (k := 15) rfl) ?_
        refine u_ld (v := iV l4) (pc := 26) (dec_at lsk_118 (k := 16) rfl) rfl ?_
        refine u_iadd (pc := 27) (dec_at lsk_118 (k := 17) rfl) ?_
        refine u_ld (v := iV l7) (pc := 28) (dec_at lsk_118 (k := 18) rfl) rfl ?_
        refine u_isub (pc := 30) (dec_at lsk_118 (k := 19) rfl) ?_
        refine u_rI (pc := 31) (dec_at lsk_118 (k := 20) rfl) rfl ?_
        have g15 := h.1
        have h := h.2
        have g16 := h.1
        have h := h.2
        refine u_lald (pc := 50) (dec_at lsk_117 (k := 29) rfl) sx_51 g15 g16 ?_
        have g17 := h.1
        have h := h.2
        have g18 := h.1
        have h := h.2
        refine u_csL (As := [lV (u.1 52 (l1 + l7)), lV (u.1 51 ((((((l2 * 41) + l7) - l7) * 41) + l4) - l7))]) (st2 := [lV l5]) (pc := 51) (dec_at lsk_117 (k := 30) rfl) m_4_151 (Or.inr rfl) rfl (Nat.le_of_ble_eq_true rfl) (p_111 g17 g18) (fun r_ u_ h_ => ?_)
        rw [h_.1, h_.2]
        have g19 := h.1
        have h := h.2
        refine u_csL (As := [lV l5, lV (tm 9000000000000000000 (u.1 52 (l1 + l7)) (u.1 51 ((((((l2 * 41) + l7) - l7) * 41) + l4) - l7)))]) (st2 := []) (pc := 54) (dec_at lsk_117 (k := 31) rfl) m_4_136 (Or.inr rfl) rfl (Nat.le_of_ble_eq_true rfl) (p_51 g19 (cn_tm g17 g18)) (fun r_ u_ h_ => ?_)
        rw [h_.1, h_.2]
        refine u_sto (lv' := [.ref 36, iV l1, iV l2, .retAddr 0, iV l4, lV (pl 9000000000000000000 l5 (tm 9000000000000000000 (u.1 52 (l1 + l7)) (u.1 51 ((((((l2 * 41) + l7) - l7) * 41) + l4) - l7)))), .retAddr 0, iV l7, lV (u.1 52 (l1 + l7)), .retAddr 0]) (pc := 57) (dec_at lsk_117 (k := 32) rfl) rfl ?_
        refine u_inc (lv' := [.ref 36, iV l1, iV l2, .retAddr 0, iV l4, lV (pl 9000000000000000000 l5 (tm 9000000000000000000 (u.1 52 (l1 + l7)) (u.1 51 ((((((l2 * 41) + l7) - l7) * 41) + l4) - l7)))), .retAddr 0, iV (l7 + 1), lV (u.1 52 (l1 + l7)), .retAddr 0]) (pc := 59) (dec_at lsk_117 (k := 33) rfl) rfl (by decide) rfl ?_
        refine u_goto (pc := 62) (tgt := 8) (dec_at lsk_117 (k := 34) rfl) rfl ?_
        exact u_weak (sbK (sbK (sbK (sbK (sbK (sbK (sbK (sbK (sbD (sbK sb0)))))))))) h
  · have h := ifF e3 h
    refine u_ld (v := lV l5) (pc := 65) (dec_at lsk_117 (k := 35) rfl) rfl ?_
    exact u_rL (pc := 67) (dec_at lsk_117 (k := 36) rfl) rfl h
/-- method 119 -/
def K_119 (d pc : Nat) (lv : ev_L) (st : List Value) (u : uS) (Q : uS → Prop) : Prop := okU d 4 5 false none prog_11_method_20_code (qV Q) pc lv st u
theorem e_119 {d : Nat} {Q : uS → Prop} {u : uS} (h : ∀ u1 : uS, u1 = fil u 54 0 10 0 → (K_119 (d + 1) 10 [.ref 36, iV 0, .retAddr 0, .retAddr 0, .retAddr 0] [] u1 Q)) : cV (d + 2) 119 [.ref 36] u Q := by
  refine u_of me_119 (Nat.le_of_ble_eq_true rfl) ?_
  refine u_ld (v := .ref 36) (pc := 0) (dec_at lsk_119 (k := 0) rfl) rfl ?_
  refine u_gS (o := 18) (p := 54) (pc := 1) (dec_at lsk_119 (k := 1) rfl) f_4_44 sx_36 rfl rfl ?_
  refine u_cl (x := 0) (pc := 4) (dec_at lsk_119 (k := 2) rfl) rfl (by decide) ?_
  refine u_csV (As := [.ref 54, lV 0]) (st2 := []) (pc := 5) (dec_at lsk_119 (k := 3) rfl) m_4_126 (Or.inl rfl) rfl (Nat.le_of_ble_eq_true rfl) (q_49 sx_54) (fun u1 e2 => ?_)
  have h := h u1 e2
  refine u_ld (v := iV 0) (pc := 8) (dec_at lsk_119 (k := 4) rfl) rfl ?_
  refine u_sto (lv' := [.ref 36, iV 0, .retAddr 0, .retAddr 0, .retAddr 0]) (pc := 9) (dec_at lsk_119 (k := 5) rfl) rfl ?_
  exact h
theorem k_119_10 {d : Nat} {Q : uS → Prop} {u : uS} {l1 : Int} (h : (isO (u.2 36 0) 2) ∧ ((rI l1) ∧ ((rI (u.1 (u.2 36 0) 1)) ∧ (if l1 < u.1 (u.2 36 0) 1 then (K_119 (d + 1) 26 [.ref 36, iV l1, lV 0, .retAddr 0, iV 1] [] u Q) else (Q u))))) : K_119 (d + 1) 10 [.ref 36, iV l1, .retAddr 0, .retAddr 0, .retAddr 0] [] u Q := by
  unfold K_119
  refine u_ld (v := iV l1) (pc := 10) (dec_at lsk_119 (k := 6) rfl) rfl ?_
  refine u_ld (v := .ref 36) (pc := 11) (dec_at lsk_119 (k := 7) rfl) rfl ?_
  refine u_gR (z := 0) (pc := 12) (dec_at lsk_119 (k := 8) rfl) f_4_12 sx_36 rfl rfl ?_
  have g1 := h.1
  have h := h.2
  refine u_gI (z := 1) (pc := 15) (dec_at lsk_119 (k := 9) rfl) f_4_103 g1 rfl rfl ?_
  have g2 := h.1
  have h := h.2
  have g3 := h.1
  have h := h.2
  refine u_icF (pc := 18) (tgt := 120) (dec_at lsk_119 (k := 10) rfl) rfl (ci_ge g2 g3) (fun e4 => ?_) (fun e4 => ?_)
  · have h := ifT e4 h
    refine u_cl (x := 0) (pc := 21) (dec_at lsk_119 (k := 11) rfl) rfl (by decide) ?_
    refine u_sto (lv' := [.ref 36, iV l1, lV 0, .retAddr 0, .retAddr 0]) (pc := 22) (dec_at lsk_119 (k := 12) rfl) rfl ?_
    refine u_ld (v := iV 1) (pc := 23) (dec_at lsk_119 (k := 13) rfl) rfl ?_
    refine u_sto (lv' := [.ref 36, iV l1, lV 0, .retAddr 0, iV 1]) (pc := 24) (dec_at lsk_119 (k := 14) rfl) rfl ?_
    exact h
  · have h := ifF e4 h
    exact u_rV (pc := 120) (dec_at lsk_119 (k := 65) rfl) rfl h
theorem k_119_26 {d : Nat} {Q : uS → Prop} {u : uS} {l1 l2 l4 : Int} (h : (isO (u.2 36 0) 2) ∧ ((0 ≤ l1) ∧ ((l1 < 30) ∧ ((rI l4) ∧ ((rI (u.1 ((u.2 36 0) + 3) l1)) ∧ (if u.1 ((u.2 36 0) + 3) l1 < l4 then ((0 ≤ u.1 ((u.2 36 0) + 2) l1) ∧ ((u.1 ((u.2 36 0) + 2) l1 < 10) ∧ ((cn 9000000000000000000 (u.1 54 (u.1 ((u.2 36 0) + 2) l1))) ∧ ((cn 9000000000000000000 l2) ∧ (∀ u11 : uS, u11 = wr u 54 (u.1 ((u.2 36 0) + 2) l1) (pl 9000000000000000000 (u.1 54 (u.1 ((u.2 36 0) + 2) l1)) l2) → (K_119 (d + 1) 10 [.ref 36, iV (l1 + 1), .retAddr 0, .retAddr 0, .retAddr 0] [] u11 Q)))))) else ((0 ≤ (l1 * 7) + l4) ∧ (((l1 * 7) + l4 < 210) ∧ ((0 ≤ (l1 * 6) + (l4 - 1)) ∧ (((l1 * 6) + (l4 - 1) < 180) ∧ ((rI (u.1 ((u.2 36 0) + 4) ((l1 * 6) + (l4 - 1)))) ∧ (if u.1 ((u.2 36 0) + 4) ((l1 * 6) + (l4 - 1)) < 100 then ((cn 9000000000000000000 l2) ∧ ((cn 9000000000000000000 0) ∧ ((cn 9000000000000000000 (u.1 53 ((l1 * 7) + l4))) ∧ (K_119 (d + 1) 26 [.ref 36, iV l1, lV (pl 9000000000000000000 (u.1 53 ((l1 * 7) + l4)) (tm 9000000000000000000 l2 0)), .retAddr 0, iV (l4 + 1)] [] u Q)))) else ((0 ≤ (u.1 ((u.2 36 0) + 4) ((l1 * 6) + (l4 - 1))) - 100) ∧ (((u.1 ((u.2 36 0) + 4) ((l1 * 6) + (l4 - 1))) - 100 < 10) ∧ ((cn 9000000000000000000 l2) ∧ ((cn 9000000000000000000 (u.1 47 ((u.1 ((u.2 36 0) + 4) ((l1 * 6) + (l4 - 1))) - 100))) ∧ ((cn 9000000000000000000 (u.1 53 ((l1 * 7) + l4))) ∧ (K_119 (d + 1) 26 [.ref 36, iV l1, lV (pl 9000000000000000000 (u.1 53 ((l1 * 7) + l4)) (tm 9000000000000000000 l2 (u.1 47 ((u.1 ((u.2 36 0) + 4) ((l1 * 6) + (l4 - 1))) - 100)))), .retAddr 0, iV (l4 + 1)] [] u Q)))))))))))))))))) : K_119 (d + 1) 26 [.ref 36, iV l1, lV l2, .retAddr 0, iV l4] [] u Q := by
  unfold K_119
  refine u_ld (v := iV l4) (pc := 26) (dec_at lsk_119 (k := 15) rfl) rfl ?_
  refine u_ld (v := .ref 36) (pc := 28) (dec_at lsk_119 (k := 16) rfl) rfl ?_
  refine u_gR (z := 0) (pc := 29) (dec_at lsk_119 (k := 17) rfl) f_4_12 sx_36 rfl rfl ?_
  have g1 := h.1
  have h := h.2
  refine u_gS (o := 3) (p := (u.2 36 0) + 3) (pc := 32) (dec_at lsk_119 (k := 18) rfl) f_4_129 g1 rfl rfl ?_
  refine u_ld (v := iV l1) (pc := 35) (dec_at lsk_119 (k := 19) rfl) rfl ?_
  have g2 := h.1
  have h := h.2
  have g3 := h.1
  have h := h.2
  refine u_iald (pc := 36) (dec_at lsk_119 (k := 20) rfl) (sa_2_4 g1) g2 g3 ?_
  have g4 := h.1
  have h := h.2
  have g5 := h.1
  have h := h.2
  refine u_icT (pc := 37) (tgt := 82) (dec_at lsk_119 (k := 21) rfl) rfl (ci_gt g4 g5) (fun e6 => ?_) (fun e6 => ?_)
  · have h := ifT e6 h
    refine u_ld (v := .ref 36) (pc := 82) (dec_at lsk_119 (k := 45) rfl) rfl ?_
    refine u_gS (o := 18) (p := 54) (pc := 83) (dec_at lsk_119 (k := 46) rfl) f_4_44 sx_36 rfl rfl ?_
    refine u_ld (v := .ref 36) (pc := 86) (dec_at lsk_119 (k := 47) rfl) rfl ?_
    refine u_gR (z := 0) (pc := 87) (dec_at lsk_119 (k := 48) rfl) f_4_12 sx_36 rfl rfl ?_
    refine u_gS (o := 2) (p := (u.2 36 0) + 2) (pc := 90) (dec_at lsk_119 (k := 49) rfl) f_4_109 g1 rfl rfl ?_
    refine u_ld (v := iV l1) (pc := 93) (dec_at lsk_119 (k := 50) rfl) rfl ?_
    refine u_iald (pc := 94) (dec_at lsk_119 (k := 51) rfl) (sa_2_3 g1) g2 g3 ?_
    refine u_ld (v := .ref 36) (pc := 95) (dec_at lsk_119 (k := 52) rfl) rfl ?_
    refine u_gS (o := 18) (p := 54) (pc := 96) (dec_at lsk_119 (k := 53) rfl) f_4_44 sx_36 rfl rfl ?_
    refine u_ld (v := .ref 36) (pc := 99) (dec_at lsk_119 (k := 54) rfl) rfl ?_
    refine u_gR (z := 0) (pc := 100) (dec_at lsk_119 (k := 55) rfl) f_4_12 sx_36 rfl rfl ?_
    refine u_gS (o := 2) (p := (u.2 36 0) + 2) (pc := 103) (dec_at lsk_119 (k := 56) rfl) f_4_109 g1 rfl rfl ?_
    refine u_ld (v := iV l1) (pc := 106) (dec_at lsk_119 (k := 57) rfl) rfl ?_
    refine u_iald (pc := 107) (dec_at lsk_119 (k := 58) rfl) (sa_2_3 g1) g2 g3 ?_
    have g7 := h.1
    have h := h.2
    have g8 := h.1
    have h := h.2
    refine u_lald (pc := 108) (dec_at lsk_119 (k := 59) rfl) sx_54 g7 g8 ?_
    refine u_ld (v := lV l2) (pc := 109) (dec_at lsk_119 (k := 60) rfl) rfl ?_
    have g9 := h.1
    have h := h.2
    have g10 := h.1
    have h := h.2
    refine u_csL (As := [lV (u.1 54 (u.1 ((u.2 36 0) + 2) l1)), lV l2]) (st2 := [iV (u.1 ((u.2 36 0) + 2) l1), .ref 54]) (pc := 110) (dec_at lsk_119 (k := 61) rfl) m_4_136 (Or.inr rfl) rfl (Nat.le_of_ble_eq_true rfl) (p_51 g9 g10) (fun r_ u_ h_ => ?_)
    rw [h_.1, h_.2]
    refine u_last (pc := 113) (dec_at lsk_119 (k := 62) rfl) sx_54 g7 g8 (fun u11 e12 => ?_)
    have h := h u11 e12
    refine u_inc (lv' := [.ref 36, iV (l1 + 1), lV l2, .retAddr 0, iV l4]) (pc := 114) (dec_at lsk_119 (k := 63) rfl) rfl (by decide) rfl ?_
    refine u_goto (pc := 117) (tgt := 10) (dec_at lsk_119 (k := 64) rfl) rfl ?_
    exact u_weak (sbK (sbK (sbD (sbK (sbD sb0))))) h
  · have h := ifF e6 h
    refine u_ld (v := .ref 36) (pc := 40) (dec_at lsk_119 (k := 22) rfl) rfl ?_
    refine u_gS (o := 17) (p := 53) (pc := 41) (dec_at lsk_119 (k := 23) rfl) f_4_41 sx_36 rfl rfl ?_
    refine u_ld (v := iV l1) (pc := 44) (dec_at lsk_119 (k := 24) rfl) rfl ?_
    refine u_c (x := 7) (pc := 45) (dec_at lsk_119 (k := 25) rfl) rfl (by decide) ?_
    refine u_imul (pc := 47) (dec_at lsk_119 (k := 26) rfl) ?_
    refine u_ld (v := iV l4) (pc := 48) (dec_at lsk_119 (k := 27) rfl) rfl ?_
    refine u_iadd (pc := 50) (dec_at lsk_119 (k := 28) rfl) ?_
    have g13 := h.1
    have h := h.2
    have g14 := h.1
    have h := h.2
    refine u_lald (pc := 51) (dec_at lsk_119 (k := 29) rfl) sx_53 g13 g14 ?_
    refine u_ld (v := lV l2) (pc := 52) (dec_at lsk_119 (k := 30) rfl) rfl ?_
    refine u_ld (v := .ref 36) (pc := 53) (dec_at lsk_119 (k := 31) rfl) rfl ?_
    refine u_ld (v := .ref 36) (pc := 54) (dec_at lsk_119 (k := 32) rfl) rfl ?_
    refine u_gR (z := 0) (pc := 55) (dec_at lsk_119 (k := 33) rfl) f_4_12 sx_36 rfl rfl ?_
    refine u_ld (v := iV l1) (pc := 58) (dec_at lsk_119 (k := 34) rfl) rfl ?_
    refine u_ld (v := iV l4) (pc := 59) (dec_at lsk_119 (k := 35) rfl) rfl ?_
    refine u_ld (v := iV 1) (pc := 61) (dec_at lsk_119 (k := 36) rfl) rfl ?_
    refine u_isub (pc := 62) (dec_at lsk_119 (k := 37) rfl) ?_
    refine u_cvI (As := [iV l1, iV (l4 - 1)]) (rb := u.2 36 0) (st2 := [.ref 36, lV l2, lV (u.1 53 ((l1 * 7) + l4))]) (pc := 63) (dec_at lsk_119 (k := 38) rfl) m_4_140 (Or.inl rfl) rfl (Nat.le_of_ble_eq_true rfl) g1 me_42 rfl ?_ (fun _ _ h_ => h_)
    refine u_of me_42 (Nat.le_of_ble_eq_true rfl) ?_
    refine u_ld (v := .ref (u.2 36 0)) (pc := 0) (dec_at lsk_42 (k := 0) rfl) rfl ?_
    refine u_gS (o := 4) (p := (u.2 36 0) + 4) (pc := 1) (dec_at lsk_42 (k := 1) rfl) f_2_21 g1 rfl rfl ?_
    refine u_ld (v := iV l1) (pc := 4) (dec_at lsk_42 (k := 2) rfl) rfl ?_
    refine u_c (x := 6) (pc := 5) (dec_at lsk_42 (k := 3) rfl) rfl (by decide) ?_
    refine u_imul (pc := 7) (dec_at lsk_42 (k := 4) rfl) ?_
    refine u_ld (v := iV (l4 - 1)) (pc := 8) (dec_at lsk_42 (k := 5) rfl) rfl ?_
    refine u_iadd (pc := 9) (dec_at lsk_42 (k := 6) rfl) ?_
    have g15 := h.1
    have h := h.2
    have g16 := h.1
    have h := h.2
    refine u_iald (pc := 10) (dec_at lsk_42 (k := 7) rfl) (sa_2_5 g1) g15 g16 ?_
    refine u_rI (pc := 11) (dec_at lsk_42 (k := 8) rfl) rfl ?_
    refine u_cvL (As := [iV (u.1 ((u.2 36 0) + 4) ((l1 * 6) + (l4 - 1)))]) (rb := 36) (st2 := [lV l2, lV (u.1 53 ((l1 * 7) + l4))]) (pc := 66) (dec_at lsk_119 (k := 39) rfl) m_4_147 (Or.inl rfl) rfl (Nat.le_of_ble_eq_true rfl) sx_36 me_110 rfl ?_ (fun _ _ h_ => h_)
    refine u_of me_110 (Nat.le_of_ble_eq_true rfl) ?_
    refine u_ld (v := iV (u.1 ((u.2 36 0) + 4) ((l1 * 6) + (l4 - 1)))) (pc := 0) (dec_at lsk_110 (k := 0) rfl) rfl ?_
    refine u_c (x := 100) (pc := 1) (dec_at lsk_110 (k := 1) rfl) rfl (by decide) ?_
    have g17 := h.1
    have h := h.2
    refine u_icF (pc := 3) (tgt := 10) (dec_at lsk_110 (k := 2) rfl) rfl (ci_ge g17 (by decide)) (fun e18 => ?_) (fun e18 => ?_)
    · have h := ifT e18 h
      refine u_cl (x := 0) (pc := 6) (dec_at lsk_110 (k := 3) rfl) rfl (by decide) ?_
      refine u_goto (pc := 7) (tgt := 19) (dec_at lsk_110 (k := 4) rfl) rfl ?_
      refine u_rL (pc := 19) (dec_at lsk_110 (k := 11) rfl) rfl ?_
      have g19 := h.1
      have h := h.2
      have g20 := h.1
      have h := h.2
      refine u_csL (As := [lV l2, lV 0]) (st2 := [lV (u.1 53 ((l1 * 7) + l4))]) (pc := 69) (dec_at lsk_119 (k := 40) rfl) m_4_151 (Or.inr rfl) rfl (Nat.le_of_ble_eq_true rfl) (p_111 g19 g20) (fun r_ u_ h_ => ?_)
      rw [h_.1, h_.2]
      have g21 := h.1
      have h := h.2
      refine u_csL (As := [lV (u.1 53 ((l1 * 7) + l4)), lV (tm 9000000000000000000 l2 0)]) (st2 := []) (pc := 72) (dec_at lsk_119 (k := 41) rfl) m_4_136 (Or.inr rfl) rfl (Nat.le_of_ble_eq_true rfl) (p_51 g21 (cn_tm g19 g20)) (fun r_ u_ h_ => ?_)
      rw [h_.1, h_.2]
      refine u_sto (lv' := [.ref 36, iV l1, lV (pl 9000000000000000000 (u.1 53 ((l1 * 7) + l4)) (tm 9000000000000000000 l2 0)), .retAddr 0, iV l4]) (pc := 75) (dec_at lsk_119 (k := 42) rfl) rfl ?_
      refine u_inc (lv' := [.ref 36, iV l1, lV (pl 9000000000000000000 (u.1 53 ((l1 * 7) + l4)) (tm 9000000000000000000 l2 0)), .retAddr 0, iV (l4 + 1)]) (pc := 76) (dec_at lsk_119 (k := 43) rfl) rfl (by decide) rfl ?_
      refine u_goto (pc := 79) (tgt := 26) (dec_at lsk_119 (k := 44) rfl) rfl ?_
      exact h
    · have h := ifF e18 h
      refine u_ld (v := .ref 36) (pc := 10) (dec_at lsk_110 (k := 5) rfl) rfl ?_
      refine u_gS (o := 11) (p := 47) (pc := 11) (dec_at lsk_110 (k := 6) rfl) f_4_22 sx_36 rfl rfl ?_
      refine u_ld (v := iV (u.1 ((u.2 36 0) + 4) ((l1 * 6) + (l4 - 1)))) (pc := 14) (dec_at lsk_110 (k := 7) rfl) rfl ?_
      refine u_c (x := 100) (pc := 15) (dec_at lsk_110 (k := 8) rfl) rfl (by decide) ?_
      refine u_isub (pc := 17) (dec_at lsk_110 (k := 9) rfl) ?_
      have g22 := h.1
      have h := h.2
      have g23 := h.1
      have h := h.2
      refine u_lald (pc := 18) (dec_at lsk_110 (k := 10) rfl) sx_47 g22 g23 ?_
      refine u_rL (pc := 19) (dec_at lsk_110 (k := 11) rfl) rfl ?_
      have g24 := h.1
      have h := h.2
      have g25 := h.1
      have h := h.2
      refine u_csL (As := [lV l2, lV (u.1 47 ((u.1 ((u.2 36 0) + 4) ((l1 * 6) + (l4 - 1))) - 100))]) (st2 := [lV (u.1 53 ((l1 * 7) + l4))]) (pc := 69) (dec_at lsk_119 (k := 40) rfl) m_4_151 (Or.inr rfl) rfl (Nat.le_of_ble_eq_true rfl) (p_111 g24 g25) (fun r_ u_ h_ => ?_)
      rw [h_.1, h_.2]
      have g26 := h.1
      have h := h.2
      refine u_csL (As := [lV (u.1 53 ((l1 * 7) + l4)), lV (tm 9000000000000000000 l2 (u.1 47 ((u.1 ((u.2 36 0) + 4) ((l1 * 6) + (l4 - 1))) - 100)))]) (st2 := []) (pc := 72) (dec_at lsk_119 (k := 41) rfl) m_4_136 (Or.inr rfl) rfl (Nat.le_of_ble_eq_true rfl) (p_51 g26 (cn_tm g24 g25)) (fun r_ u_ h_ => ?_)
      rw [h_.1, h_.2]
      refine u_sto (lv' := [.ref 36, iV l1, lV (pl 9000000000000000000 (u.1 53 ((l1 * 7) + l4)) (tm 9000000000000000000 l2 (u.1 47 ((u.1 ((u.2 36 0) + 4) ((l1 * 6) + (l4 - 1))) - 100)))), .retAddr 0, iV l4]) (pc := 75) (dec_at lsk_119 (k := 42) rfl) rfl ?_
      refine u_inc (lv' := [.ref 36, iV l1, lV (pl 9000000000000000000 (u.1 53 ((l1 * 7) + l4)) (tm 9000000000000000000 l2 (u.1 47 ((u.1 ((u.2 36 0) + 4) ((l1 * 6) + (l4 - 1))) - 100)))), .retAddr 0, iV (l4 + 1)]) (pc := 76) (dec_at lsk_119 (k := 43) rfl) rfl (by decide) rfl ?_
      refine u_goto (pc := 79) (tgt := 26) (dec_at lsk_119 (k := 44) rfl) rfl ?_
      exact h
/-- method 120 -/
def K_120 (d pc : Nat) (lv : ev_L) (st : List Value) (u : uS) (Q : uS → Prop) : Prop := okU d 4 5 false none prog_11_method_21_code (qV Q) pc lv st u
theorem e_120 {d : Nat} {Q : uS → Prop} {u : uS} (h : K_120 (d + 1) 4 [.ref 36, iV 0, iV 0, .retAddr 0, .retAddr 0] [] u Q) : cV (d + 2) 120 [.ref 36] u Q := by
  refine u_of me_120 (Nat.le_of_ble_eq_true rfl) ?_
  refine u_ld (v := iV 0) (pc := 0) (dec_at lsk_120 (k := 0) rfl) rfl ?_
  refine u_sto (lv' := [.ref 36, iV 0, .retAddr 0, .retAddr 0, .retAddr 0]) (pc := 1) (dec_at lsk_120 (k := 1) rfl) rfl ?_
  refine u_ld (v := iV 0) (pc := 2) (dec_at lsk_120 (k := 2) rfl) rfl ?_
  refine u_sto (lv' := [.ref 36, iV 0, iV 0, .retAddr 0, .retAddr 0]) (pc := 3) (dec_at lsk_120 (k := 3) rfl) rfl ?_
  exact h
theorem k_120_4 {d : Nat} {Q : uS → Prop} {u : uS} {l1 l2 : Int} (h : (isO (u.2 36 0) 2) ∧ ((rI l2) ∧ ((rI (u.1 (u.2 36 0) 0)) ∧ (if l2 < u.1 (u.2 36 0) 0 then ((0 ≤ l2) ∧ ((l2 < 10) ∧ ((rL (u.1 54 l2)) ∧ (if u.1 54 l2 = 0 then (K_120 (d + 1) 4 [.ref 36, iV (ior l1 0), iV (l2 + 1), .retAddr 0, .retAddr 0] [] u Q) else (K_120 (d + 1) 4 [.ref 36, iV (ior l1 (ishl 1 l2)), iV (l2 + 1), .retAddr 0, .retAddr 0] [] u Q))))) else (K_120 (d + 1) 46 [.ref 36, iV l1, iV 0, iV 0, .retAddr 0] [] u Q))))) : K_120 (d + 1) 4 [.ref 36, iV l1, iV l2, .retAddr 0, .retAddr 0] [] u Q := by
  unfold K_120
  refine u_ld (v := iV l2) (pc := 4) (dec_at lsk_120 (k := 4) rfl) rfl ?_
  refine u_ld (v := .ref 36) (pc := 5) (dec_at lsk_120 (k := 5) rfl) rfl ?_
  refine u_gR (z := 0) (pc := 6) (dec_at lsk_120 (k := 6) rfl) f_4_12 sx_36 rfl rfl ?_
  have g1 := h.1
  have h := h.2
  refine u_gI (z := 0) (pc := 9) (dec_at lsk_120 (k := 7) rfl) f_4_75 g1 rfl rfl ?_
  have g2 := h.1
  have h := h.2
  have g3 := h.1
  have h := h.2
  refine u_icF (pc := 12) (tgt := 42) (dec_at lsk_120 (k := 8) rfl) rfl (ci_ge g2 g3) (fun e4 => ?_) (fun e4 => ?_)
  · have h := ifT e4 h
    refine u_ld (v := iV l1) (pc := 15) (dec_at lsk_120 (k := 9) rfl) rfl ?_
    refine u_ld (v := .ref 36) (pc := 16) (dec_at lsk_120 (k := 10) rfl) rfl ?_
    refine u_gS (o := 18) (p := 54) (pc := 17) (dec_at lsk_120 (k := 11) rfl) f_4_44 sx_36 rfl rfl ?_
    refine u_ld (v := iV l2) (pc := 20) (dec_at lsk_120 (k := 12) rfl) rfl ?_
    have g5 := h.1
    have h := h.2
    have g6 := h.1
    have h := h.2
    refine u_lald (pc := 21) (dec_at lsk_120 (k := 13) rfl) sx_54 g5 g6 ?_
    refine u_cl (x := 0) (pc := 22) (dec_at lsk_120 (k := 14) rfl) rfl (by decide) ?_
    refine u_st (st' := [.int (lg_cmp (Int64.ofInt (u.1 54 l2)) (Int64.ofInt 0)), iV l1]) (pc := 23) (dec_at lsk_120 (k := 15) rfl) rfl ?_
    have g7 := h.1
    have h := h.2
    refine u_ifT (pc := 24) (tgt := 33) (dec_at lsk_120 (k := 16) rfl) rfl (cl_eq g7 (by decide)) (fun e8 => ?_) (fun e8 => ?_)
    · have h := ifT e8 h
      refine u_ld (v := iV 0) (pc := 33) (dec_at lsk_120 (k := 21) rfl) rfl ?_
      refine u_ior (pc := 34) (dec_at lsk_120 (k := 22) rfl) ?_
      refine u_sto (lv' := [.ref 36, iV (ior l1 0), iV l2, .retAddr 0, .retAddr 0]) (pc := 35) (dec_at lsk_120 (k := 23) rfl) rfl ?_
      refine u_inc (lv' := [.ref 36, iV (ior l1 0), iV (l2 + 1), .retAddr 0, .retAddr 0]) (pc := 36) (dec_at lsk_120 (k := 24) rfl) rfl (by decide) rfl ?_
      refine u_goto (pc := 39) (tgt := 4) (dec_at lsk_120 (k := 25) rfl) rfl ?_
      exact h
    · have h := ifF e8 h
      refine u_ld (v := iV 1) (pc := 27) (dec_at lsk_120 (k := 17) rfl) rfl ?_
      refine u_ld (v := iV l2) (pc := 28) (dec_at lsk_120 (k := 18) rfl) rfl ?_
      refine u_ishl (pc := 29) (dec_at lsk_120 (k := 19) rfl) ?_
      refine u_goto (pc := 30) (tgt := 34) (dec_at lsk_120 (k := 20) rfl) rfl ?_
      refine u_ior (pc := 34) (dec_at lsk_120 (k := 22) rfl) ?_
      refine u_sto (lv' := [.ref 36, iV (ior l1 (ishl 1 l2)), iV l2, .retAddr 0, .retAddr 0]) (pc := 35) (dec_at lsk_120 (k := 23) rfl) rfl ?_
      refine u_inc (lv' := [.ref 36, iV (ior l1 (ishl 1 l2)), iV (l2 + 1), .retAddr 0, .retAddr 0]) (pc := 36) (dec_at lsk_120 (k := 24) rfl) rfl (by decide) rfl ?_
      refine u_goto (pc := 39) (tgt := 4) (dec_at lsk_120 (k := 25) rfl) rfl ?_
      exact h
  · have h := ifF e4 h
    refine u_ld (v := iV 0) (pc := 42) (dec_at lsk_120 (k := 26) rfl) rfl ?_
    refine u_sto (lv' := [.ref 36, iV l1, iV 0, .retAddr 0, .retAddr 0]) (pc := 43) (dec_at lsk_120 (k := 27) rfl) rfl ?_
    refine u_ld (v := iV 0) (pc := 44) (dec_at lsk_120 (k := 28) rfl) rfl ?_
    refine u_sto (lv' := [.ref 36, iV l1, iV 0, iV 0, .retAddr 0]) (pc := 45) (dec_at lsk_120 (k := 29) rfl) rfl ?_
    exact h
theorem k_120_46 {d : Nat} {Q : uS → Prop} {u : uS} {l1 l2 l3 : Int} (h : (isO (u.2 36 0) 2) ∧ ((rI l3) ∧ ((rI (u.1 (u.2 36 0) 0)) ∧ (if l3 < u.1 (u.2 36 0) 0 then (if iand (iushr (u.1 36 8) l3) 1 = 1 then ((0 ≤ l3) ∧ ((l3 < 10) ∧ (if iand (ior (u.1 50 l3) (ishl 1 l3)) l1 = 0 then (K_120 (d + 1) 46 [.ref 36, iV l1, iV l2, iV (l3 + 1), .retAddr 0] [] u Q) else (K_120 (d + 1) 46 [.ref 36, iV l1, iV (ior l2 (ishl 1 l3)), iV (l3 + 1), .retAddr 0] [] u Q)))) else (K_120 (d + 1) 46 [.ref 36, iV l1, iV l2, iV (l3 + 1), .retAddr 0] [] u Q)) else (K_120 (d + 1) 98 [.ref 36, iV l1, iV l2, iV 0, .retAddr 0] [] u Q))))) : K_120 (d + 1) 46 [.ref 36, iV l1, iV l2, iV l3, .retAddr 0] [] u Q := by
  unfold K_120
  refine u_ld (v := iV l3) (pc := 46) (dec_at lsk_120 (k := 30) rfl) rfl ?_
  refine u_ld (v := .ref 36) (pc := 47) (dec_at lsk_120 (k := 31) rfl) rfl ?_
  refine u_gR (z := 0) (pc := 48) (dec_at lsk_120 (k := 32) rfl) f_4_12 sx_36 rfl rfl ?_
  have g1 := h.1
  have h := h.2
  refine u_gI (z := 0) (pc := 51) (dec_at lsk_120 (k := 33) rfl) f_4_75 g1 rfl rfl ?_
  have g2 := h.1
  have h := h.2
  have g3 := h.1
  have h := h.2
  refine u_icF (pc := 54) (tgt := 96) (dec_at lsk_120 (k := 34) rfl) rfl (ci_ge g2 g3) (fun e4 => ?_) (fun e4 => ?_)
  · have h := ifT e4 h
    refine u_ld (v := .ref 36) (pc := 57) (dec_at lsk_120 (k := 35) rfl) rfl ?_
    refine u_gI (z := 8) (pc := 58) (dec_at lsk_120 (k := 36) rfl) f_4_157 sx_36 rfl rfl ?_
    refine u_ld (v := iV l3) (pc := 61) (dec_at lsk_120 (k := 37) rfl) rfl ?_
    refine u_csI (As := [iV (u.1 36 8), iV l3]) (st2 := []) (pc := 62) (dec_at lsk_120 (k := 38) rfl) m_4_179 (Or.inr rfl) rfl (Nat.le_of_ble_eq_true rfl) ?_ (fun _ _ h_ => h_)
    refine u_of me_47 (Nat.le_of_ble_eq_true rfl) ?_
    refine u_ld (v := iV (u.1 36 8)) (pc := 0) (dec_at lsk_47 (k := 0) rfl) rfl ?_
    refine u_ld (v := iV l3) (pc := 1) (dec_at lsk_47 (k := 1) rfl) rfl ?_
    refine u_iushr (pc := 2) (dec_at lsk_47 (k := 2) rfl) ?_
    refine u_ld (v := iV 1) (pc := 3) (dec_at lsk_47 (k := 3) rfl) rfl ?_
    refine u_iand (pc := 4) (dec_at lsk_47 (k := 4) rfl) ?_
    refine u_rI (pc := 5) (dec_at lsk_47 (k := 5) rfl) rfl ?_
    refine u_ld (v := iV 1) (pc := 65) (dec_at lsk_120 (k := 39) rfl) rfl ?_
    refine u_icF (pc := 66) (tgt := 90) (dec_at lsk_120 (k := 40) rfl) rfl (ci_ne (ri_toInt _) (by decide)) (fun e5 => ?_) (fun e5 => ?_)
    · have h := ifT e5 h
      refine u_ld (v := .ref 36) (pc := 69) (dec_at lsk_120 (k := 41) rfl) rfl ?_
      refine u_gS (o := 14) (p := 50) (pc := 70) (dec_at lsk_120 (k := 42) rfl) f_4_32 sx_36 rfl rfl ?_
      refine u_ld (v := iV l3) (pc := 73) (dec_at lsk_120 (k := 43) rfl) rfl ?_
      have g6 := h.1
      have h := h.2
      have g7 := h.1
      have h := h.2
      refine u_iald (pc := 74) (dec_at lsk_120 (k := 44) rfl) sx_50 g6 g7 ?_
      refine u_ld (v := iV 1) (pc := 75) (dec_at lsk_120 (k := 45) rfl) rfl ?_
      refine u_ld (v := iV l3) (pc := 76) (dec_at lsk_120 (k := 46) rfl) rfl ?_
      refine u_ishl (pc := 77) (dec_at lsk_120 (k := 47) rfl) ?_
      refine u_ior (pc := 78) (dec_at lsk_120 (k := 48) rfl) ?_
      refine u_ld (v := iV l1) (pc := 79) (dec_at lsk_120 (k := 49) rfl) rfl ?_
      refine u_iand (pc := 80) (dec_at lsk_120 (k := 50) rfl) ?_
      refine u_ifT (pc := 81) (tgt := 90) (dec_at lsk_120 (k := 51) rfl) rfl (c0_eq (ri_toInt _)) (fun e8 => ?_) (fun e8 => ?_)
      · have h := ifT e8 h
        refine u_inc (lv' := [.ref 36, iV l1, iV l2, iV (l3 + 1), .retAddr 0]) (pc := 90) (dec_at lsk_120 (k := 58) rfl) rfl (by decide) rfl ?_
        refine u_goto (pc := 93) (tgt := 46) (dec_at lsk_120 (k := 59) rfl) rfl ?_
        exact h
      · have h := ifF e8 h
        refine u_ld (v := iV l2) (pc := 84) (dec_at lsk_120 (k := 52) rfl) rfl ?_
        refine u_ld (v := iV 1) (pc := 85) (dec_at lsk_120 (k := 53) rfl) rfl ?_
        refine u_ld (v := iV l3) (pc := 86) (dec_at lsk_120 (k := 54) rfl) rfl ?_
        refine u_ishl (pc := 87) (dec_at lsk_120 (k := 55) rfl) ?_
        refine u_ior (pc := 88) (dec_at lsk_120 (k := 56) rfl) ?_
        refine u_sto (lv' := [.ref 36, iV l1, iV (ior l2 (ishl 1 l3)), iV l3, .retAddr 0]) (pc := 89) (dec_at lsk_120 (k := 57) rfl) rfl ?_
        refine u_inc (lv' := [.ref 36, iV l1, iV (ior l2 (ishl 1 l3)), iV (l3 + 1), .retAddr 0]) (pc := 90) (dec_at lsk_120 (k := 58) rfl) rfl (by decide) rfl ?_
        refine u_goto (pc := 93) (tgt := 46) (dec_at lsk_120 (k := 59) rfl) rfl ?_
        exact h
    · have h := ifF e5 h
      refine u_inc (lv' := [.ref 36, iV l1, iV l2, iV (l3 + 1), .retAddr 0]) (pc := 90) (dec_at lsk_120 (k := 58) rfl) rfl (by decide) rfl ?_
      refine u_goto (pc := 93) (tgt := 46) (dec_at lsk_120 (k := 59) rfl) rfl ?_
      exact h
  · have h := ifF e4 h
    refine u_ld (v := iV 0) (pc := 96) (dec_at lsk_120 (k := 60) rfl) rfl ?_
    refine u_sto (lv' := [.ref 36, iV l1, iV l2, iV 0, .retAddr 0]) (pc := 97) (dec_at lsk_120 (k := 61) rfl) rfl ?_
    exact h
theorem k_120_98 {d : Nat} {Q : uS → Prop} {u : uS} {l1 l2 l3 : Int} (h : (isO (u.2 36 0) 2) ∧ ((rI l3) ∧ ((rI (u.1 (u.2 36 0) 0)) ∧ (if l3 < u.1 (u.2 36 0) 0 then ((0 ≤ l3) ∧ ((l3 < 10) ∧ (if iand (ior (u.1 50 l3) (ishl 1 l3)) l2 = 0 then (∀ u8 : uS, u8 = wr u 55 l3 (u.1 54 l3) → (K_120 (d + 1) 98 [.ref 36, iV l1, iV l2, iV (l3 + 1), .retAddr 0] [] u8 Q)) else (∀ u10 : uS, u10 = wr u 55 l3 9000000000000000000 → (K_120 (d + 1) 98 [.ref 36, iV l1, iV l2, iV (l3 + 1), .retAddr 0] [] u10 Q))))) else ((rI l1) ∧ (if l1 = 0 then (K_120 (d + 1) 161 [.ref 36, .retAddr 0, iV l2, iV 0, iV 0] [] u Q) else (K_120 (d + 1) 161 [.ref 36, .retAddr 0, iV l2, iV 1, iV 0] [] u Q))))))) : K_120 (d + 1) 98 [.ref 36, iV l1, iV l2, iV l3, .retAddr 0] [] u Q := by
  unfold K_120
  refine u_ld (v := iV l3) (pc := 98) (dec_at lsk_120 (k := 62) rfl) rfl ?_
  refine u_ld (v := .ref 36) (pc := 99) (dec_at lsk_120 (k := 63) rfl) rfl ?_
  refine u_gR (z := 0) (pc := 100) (dec_at lsk_120 (k := 64) rfl) f_4_12 sx_36 rfl rfl ?_
  have g1 := h.1
  have h := h.2
  refine u_gI (z := 0) (pc := 103) (dec_at lsk_120 (k := 65) rfl) f_4_75 g1 rfl rfl ?_
  have g2 := h.1
  have h := h.2
  have g3 := h.1
  have h := h.2
  refine u_icF (pc := 106) (tgt := 148) (dec_at lsk_120 (k := 66) rfl) rfl (ci_ge g2 g3) (fun e4 => ?_) (fun e4 => ?_)
  · have h := ifT e4 h
    refine u_ld (v := .ref 36) (pc := 109) (dec_at lsk_120 (k := 67) rfl) rfl ?_
    refine u_gS (o := 19) (p := 55) (pc := 110) (dec_at lsk_120 (k := 68) rfl) f_4_47 sx_36 rfl rfl ?_
    refine u_ld (v := iV l3) (pc := 113) (dec_at lsk_120 (k := 69) rfl) rfl ?_
    refine u_ld (v := .ref 36) (pc := 114) (dec_at lsk_120 (k := 70) rfl) rfl ?_
    refine u_gS (o := 14) (p := 50) (pc := 115) (dec_at lsk_120 (k := 71) rfl) f_4_32 sx_36 rfl rfl ?_
    refine u_ld (v := iV l3) (pc := 118) (dec_at lsk_120 (k := 72) rfl) rfl ?_
    have g5 := h.1
    have h := h.2
    have g6 := h.1
    have h := h.2
    refine u_iald (pc := 119) (dec_at lsk_120 (k := 73) rfl) sx_50 g5 g6 ?_
    refine u_ld (v := iV 1) (pc := 120) (dec_at lsk_120 (k := 74) rfl) rfl ?_
    refine u_ld (v := iV l3) (pc := 121) (dec_at lsk_120 (k := 75) rfl) rfl ?_
    refine u_ishl (pc := 122) (dec_at lsk_120 (k := 76) rfl) ?_
    refine u_ior (pc := 123) (dec_at lsk_120 (k := 77) rfl) ?_
    refine u_ld (v := iV l2) (pc := 124) (dec_at lsk_120 (k := 78) rfl) rfl ?_
    refine u_iand (pc := 125) (dec_at lsk_120 (k := 79) rfl) ?_
    refine u_ifT (pc := 126) (tgt := 135) (dec_at lsk_120 (k := 80) rfl) rfl (c0_eq (ri_toInt _)) (fun e7 => ?_) (fun e7 => ?_)
    · have h := ifT e7 h
      refine u_ld (v := .ref 36) (pc := 135) (dec_at lsk_120 (k := 83) rfl) rfl ?_
      refine u_gS (o := 18) (p := 54) (pc := 136) (dec_at lsk_120 (k := 84) rfl) f_4_44 sx_36 rfl rfl ?_
      refine u_ld (v := iV l3) (pc := 139) (dec_at lsk_120 (k := 85) rfl) rfl ?_
      refine u_lald (pc := 140) (dec_at lsk_120 (k := 86) rfl) sx_54 g5 g6 ?_
      refine u_last (pc := 141) (dec_at lsk_120 (k := 87) rfl) sx_55 g5 g6 (fun u8 e9 => ?_)
      have h := h u8 e9
      refine u_inc (lv' := [.ref 36, iV l1, iV l2, iV (l3 + 1), .retAddr 0]) (pc := 142) (dec_at lsk_120 (k := 88) rfl) rfl (by decide) rfl ?_
      refine u_goto (pc := 145) (tgt := 98) (dec_at lsk_120 (k := 89) rfl) rfl ?_
      exact h
    · have h := ifF e7 h
      refine u_ldc2 (x := 9000000000000000000) (pc := 129) (dec_at lsk_120 (k := 81) rfl) con_4_120 (by decide) ?_
      refine u_goto (pc := 132) (tgt := 141) (dec_at lsk_120 (k := 82) rfl) rfl ?_
      refine u_last (pc := 141) (dec_at lsk_120 (k := 87) rfl) sx_55 g5 g6 (fun u10 e11 => ?_)
      have h := h u10 e11
      refine u_inc (lv' := [.ref 36, iV l1, iV l2, iV (l3 + 1), .retAddr 0]) (pc := 142) (dec_at lsk_120 (k := 88) rfl) rfl (by decide) rfl ?_
      refine u_goto (pc := 145) (tgt := 98) (dec_at lsk_120 (k := 89) rfl) rfl ?_
      exact h
  · have h := ifF e4 h
    refine u_ld (v := iV l1) (pc := 148) (dec_at lsk_120 (k := 90) rfl) rfl ?_
    have g12 := h.1
    have h := h.2
    refine u_ifT (pc := 149) (tgt := 156) (dec_at lsk_120 (k := 91) rfl) rfl (c0_eq g12) (fun e13 => ?_) (fun e13 => ?_)
    · have h := ifT e13 h
      refine u_ld (v := iV 0) (pc := 156) (dec_at lsk_120 (k := 94) rfl) rfl ?_
      refine u_sto (lv' := [.ref 36, iV l1, iV l2, iV 0, .retAddr 0]) (pc := 157) (dec_at lsk_120 (k := 95) rfl) rfl ?_
      refine u_ld (v := iV 0) (pc := 158) (dec_at lsk_120 (k := 96) rfl) rfl ?_
      refine u_sto (lv' := [.ref 36, iV l1, iV l2, iV 0, iV 0]) (pc := 159) (dec_at lsk_120 (k := 97) rfl) rfl ?_
      exact u_weak (sbK (sbD (sbK (sbK (sbK sb0))))) h
    · have h := ifF e13 h
      refine u_ld (v := iV 1) (pc := 152) (dec_at lsk_120 (k := 92) rfl) rfl ?_
      refine u_goto (pc := 153) (tgt := 157) (dec_at lsk_120 (k := 93) rfl) rfl ?_
      refine u_sto (lv' := [.ref 36, iV l1, iV l2, iV 1, .retAddr 0]) (pc := 157) (dec_at lsk_120 (k := 95) rfl) rfl ?_
      refine u_ld (v := iV 0) (pc := 158) (dec_at lsk_120 (k := 96) rfl) rfl ?_
      refine u_sto (lv' := [.ref 36, iV l1, iV l2, iV 1, iV 0]) (pc := 159) (dec_at lsk_120 (k := 97) rfl) rfl ?_
      exact u_weak (sbK (sbD (sbK (sbK (sbK sb0))))) h
theorem k_120_161 {d : Nat} {Q : uS → Prop} {u : uS} {l2 l3 l4 : Int} (h : (rI l3) ∧ (if l3 = 0 then (Q u) else ((isO (u.2 36 0) 2) ∧ ((rI l4) ∧ ((rI (u.1 (u.2 36 0) 0)) ∧ (if l4 < u.1 (u.2 36 0) 0 then (cI (d + 1) 121 [.ref 36, iV l2] u (fun r8 u7 => K_120 (d + 1) 161 [.ref 36, .retAddr 0, iV l2, iV r8, iV (l4 + 1)] [] u7 Q)) else (Q u))))))) : K_120 (d + 1) 161 [.ref 36, .retAddr 0, iV l2, iV l3, iV l4] [] u Q := by
  unfold K_120
  refine u_ld (v := iV l3) (pc := 161) (dec_at lsk_120 (k := 98) rfl) rfl ?_
  have g1 := h.1
  have h := h.2
  refine u_ifT (pc := 162) (tgt := 189) (dec_at lsk_120 (k := 99) rfl) rfl (c0_eq g1) (fun e2 => ?_) (fun e2 => ?_)
  · have h := ifT e2 h
    exact u_rV (pc := 189) (dec_at lsk_120 (k := 111) rfl) rfl h
  · have h := ifF e2 h
    refine u_ld (v := iV l4) (pc := 165) (dec_at lsk_120 (k := 100) rfl) rfl ?_
    refine u_ld (v := .ref 36) (pc := 167) (dec_at lsk_120 (k := 101) rfl) rfl ?_
    refine u_gR (z := 0) (pc := 168) (dec_at lsk_120 (k := 102) rfl) f_4_12 sx_36 rfl rfl ?_
    have g3 := h.1
    have h := h.2
    refine u_gI (z := 0) (pc := 171) (dec_at lsk_120 (k := 103) rfl) f_4_75 g3 rfl rfl ?_
    have g4 := h.1
    have h := h.2
    have g5 := h.1
    have h := h.2
    refine u_icF (pc := 174) (tgt := 189) (dec_at lsk_120 (k := 104) rfl) rfl (ci_ge g4 g5) (fun e6 => ?_) (fun e6 => ?_)
    · have h := ifT e6 h
      refine u_ld (v := .ref 36) (pc := 177) (dec_at lsk_120 (k := 105) rfl) rfl ?_
      refine u_ld (v := iV l2) (pc := 178) (dec_at lsk_120 (k := 106) rfl) rfl ?_
      refine u_cvI (As := [iV l2]) (rb := 36) (st2 := []) (pc := 179) (dec_at lsk_120 (k := 107) rfl) m_4_182 (Or.inl rfl) rfl (Nat.le_of_ble_eq_true rfl) sx_36 me_121 rfl h (fun r8 u7 h => ?_)
      refine u_sto (lv' := [.ref 36, .retAddr 0, iV l2, iV r8, iV l4]) (pc := 182) (dec_at lsk_120 (k := 108) rfl) rfl ?_
      refine u_inc (lv' := [.ref 36, .retAddr 0, iV l2, iV r8, iV (l4 + 1)]) (pc := 183) (dec_at lsk_120 (k := 109) rfl) rfl (by decide) rfl ?_
      refine u_goto (pc := 186) (tgt := 161) (dec_at lsk_120 (k := 110) rfl) rfl ?_
      exact h
    · have h := ifF e6 h
      exact u_rV (pc := 189) (dec_at lsk_120 (k := 111) rfl) rfl h
/-- method 121 -/
def K_121 (d pc : Nat) (lv : ev_L) (st : List Value) (u : uS) (Q : Int → uS → Prop) : Prop := okU d 4 7 false (some .boolean) prog_11_method_22_code (qI Q) pc lv st u
theorem e_121 {d : Nat} {Q : Int → uS → Prop} {u : uS} {l1 : Int} (h : K_121 (d + 1) 4 [.ref 36, iV l1, iV 0, iV 0, .retAddr 0, .retAddr 0, .retAddr 0] [] u Q) : cI (d + 2) 121 [.ref 36, iV l1] u Q := by
  refine u_of me_121 (Nat.le_of_ble_eq_true rfl) ?_
  refine u_ld (v := iV 0) (pc := 0) (dec_at lsk_121 (k := 0) rfl) rfl ?_
  refine u_sto (lv' := [.ref 36, iV l1, iV 0, .retAddr 0, .retAddr 0, .retAddr 0, .retAddr 0]) (pc := 1) (dec_at lsk_121 (k := 1) rfl) rfl ?_
  refine u_ld (v := iV 0) (pc := 2) (dec_at lsk_121 (k := 2) rfl) rfl ?_
  refine u_sto (lv' := [.ref 36, iV l1, iV 0, iV 0, .retAddr 0, .retAddr 0, .retAddr 0]) (pc := 3) (dec_at lsk_121 (k := 3) rfl) rfl ?_
  exact h
theorem k_121_4 {d : Nat} {Q : Int → uS → Prop} {u : uS} {l1 l2 l3 : Int} (h : (isO (u.2 36 0) 2) ∧ ((rI l3) ∧ ((rI (u.1 (u.2 36 0) 0)) ∧ (if l3 < u.1 (u.2 36 0) 0 then ((0 ≤ l3) ∧ ((l3 < 10) ∧ ((rI (u.1 50 l3)) ∧ (if u.1 50 l3 = 0 then (K_121 (d + 1) 4 [.ref 36, iV l1, iV l2, iV (l3 + 1), .retAddr 0, .retAddr 0, .retAddr 0] [] u Q) else (if iand (ior (u.1 50 l3) (ishl 1 l3)) l1 = 0 then (K_121 (d + 1) 50 [.ref 36, iV l1, iV l2, iV l3, lV (u.1 54 l3), .retAddr 0, iV 0] [] u Q) else (K_121 (d + 1) 4 [.ref 36, iV l1, iV l2, iV (l3 + 1), .retAddr 0, .retAddr 0, .retAddr 0] [] u Q)))))) else ((l2 = 0 ∨ l2 = 1) ∧ (Q l2 u)))))) : K_121 (d + 1) 4 [.ref 36, iV l1, iV l2, iV l3, .retAddr 0, .retAddr 0, .retAddr 0] [] u Q := by
  unfold K_121
  refine u_ld (v := iV l3) (pc := 4) (dec_at lsk_121 (k := 4) rfl) rfl ?_
  refine u_ld (v := .ref 36) (pc := 5) (dec_at lsk_121 (k := 5) rfl) rfl ?_
  refine u_gR (z := 0) (pc := 6) (dec_at lsk_121 (k := 6) rfl) f_4_12 sx_36 rfl rfl ?_
  have g1 := h.1
  have h := h.2
  refine u_gI (z := 0) (pc := 9) (dec_at lsk_121 (k := 7) rfl) f_4_75 g1 rfl rfl ?_
  have g2 := h.1
  have h := h.2
  have g3 := h.1
  have h := h.2
  refine u_icF (pc := 12) (tgt := 131) (dec_at lsk_121 (k := 8) rfl) rfl (ci_ge g2 g3) (fun e4 => ?_) (fun e4 => ?_)
  · have h := ifT e4 h
    refine u_ld (v := .ref 36) (pc := 15) (dec_at lsk_121 (k := 9) rfl) rfl ?_
    refine u_gS (o := 14) (p := 50) (pc := 16) (dec_at lsk_121 (k := 10) rfl) f_4_32 sx_36 rfl rfl ?_
    refine u_ld (v := iV l3) (pc := 19) (dec_at lsk_121 (k := 11) rfl) rfl ?_
    have g5 := h.1
    have h := h.2
    have g6 := h.1
    have h := h.2
    refine u_iald (pc := 20) (dec_at lsk_121 (k := 12) rfl) sx_50 g5 g6 ?_
    have g7 := h.1
    have h := h.2
    refine u_ifT (pc := 21) (tgt := 125) (dec_at lsk_121 (k := 13) rfl) rfl (c0_eq g7) (fun e8 => ?_) (fun e8 => ?_)
    · have h := ifT e8 h
      refine u_inc (lv' := [.ref 36, iV l1, iV l2, iV (l3 + 1), .retAddr 0, .retAddr 0, .retAddr 0]) (pc := 125) (dec_at lsk_121 (k := 73) rfl) rfl (by decide) rfl ?_
      refine u_goto (pc := 128) (tgt := 4) (dec_at lsk_121 (k := 74) rfl) rfl ?_
      exact h
    · have h := ifF e8 h
      refine u_ld (v := .ref 36) (pc := 24) (dec_at lsk_121 (k := 14) rfl) rfl ?_
      refine u_gS (o := 14) (p := 50) (pc := 25) (dec_at lsk_121 (k := 15) rfl) f_4_32 sx_36 rfl rfl ?_
      refine u_ld (v := iV l3) (pc := 28) (dec_at lsk_121 (k := 16) rfl) rfl ?_
      refine u_iald (pc := 29) (dec_at lsk_121 (k := 17) rfl) sx_50 g5 g6 ?_
      refine u_ld (v := iV 1) (pc := 30) (dec_at lsk_121 (k := 18) rfl) rfl ?_
      refine u_ld (v := iV l3) (pc := 31) (dec_at lsk_121 (k := 19) rfl) rfl ?_
      refine u_ishl (pc := 32) (dec_at lsk_121 (k := 20) rfl) ?_
      refine u_ior (pc := 33) (dec_at lsk_121 (k := 21) rfl) ?_
      refine u_ld (v := iV l1) (pc := 34) (dec_at lsk_121 (k := 22) rfl) rfl ?_
      refine u_iand (pc := 35) (dec_at lsk_121 (k := 23) rfl) ?_
      refine u_ifF (pc := 36) (tgt := 125) (dec_at lsk_121 (k := 24) rfl) rfl (c0_ne (ri_toInt _)) (fun e9 => ?_) (fun e9 => ?_)
      · have h := ifT e9 h
        refine u_ld (v := .ref 36) (pc := 39) (dec_at lsk_121 (k := 25) rfl) rfl ?_
        refine u_gS (o := 18) (p := 54) (pc := 40) (dec_at lsk_121 (k := 26) rfl) f_4_44 sx_36 rfl rfl ?_
        refine u_ld (v := iV l3) (pc := 43) (dec_at lsk_121 (k := 27) rfl) rfl ?_
        refine u_lald (pc := 44) (dec_at lsk_121 (k := 28) rfl) sx_54 g5 g6 ?_
        refine u_sto (lv' := [.ref 36, iV l1, iV l2, iV l3, lV (u.1 54 l3), .retAddr 0, .retAddr 0]) (pc := 45) (dec_at lsk_121 (k := 29) rfl) rfl ?_
        refine u_ld (v := iV 0) (pc := 47) (dec_at lsk_121 (k := 30) rfl) rfl ?_
        refine u_sto (lv' := [.ref 36, iV l1, iV l2, iV l3, lV (u.1 54 l3), .retAddr 0, iV 0]) (pc := 48) (dec_at lsk_121 (k := 31) rfl) rfl ?_
        exact h
      · have h := ifF e9 h
        refine u_inc (lv' := [.ref 36, iV l1, iV l2, iV (l3 + 1), .retAddr 0, .retAddr 0, .retAddr 0]) (pc := 125) (dec_at lsk_121 (k := 73) rfl) rfl (by decide) rfl ?_
        refine u_goto (pc := 128) (tgt := 4) (dec_at lsk_121 (k := 74) rfl) rfl ?_
        exact h
  · have h := ifF e4 h
    refine u_ld (v := iV l2) (pc := 131) (dec_at lsk_121 (k := 75) rfl) rfl ?_
    have g10 := h.1
    have h := h.2
    exact u_rZ (pc := 132) (dec_at lsk_121 (k := 76) rfl) rfl g10 h
theorem k_121_50 {d : Nat} {Q : Int → uS → Prop} {u : uS} {l1 l2 l3 l4 l6 : Int} (h : (isO (u.2 36 0) 2) ∧ ((rI l6) ∧ ((rI (u.1 (u.2 36 0) 0)) ∧ (if l6 < u.1 (u.2 36 0) 0 then ((0 ≤ (l3 * 10) + l6) ∧ (((l3 * 10) + l6 < 100) ∧ ((0 ≤ l6) ∧ ((l6 < 10) ∧ ((cn 9000000000000000000 (u.1 49 ((l3 * 10) + l6))) ∧ ((cn 9000000000000000000 (u.1 55 l6)) ∧ ((cn 9000000000000000000 l4) ∧ (K_121 (d + 1) 50 [.ref 36, iV l1, iV l2, iV l3, lV (pl 9000000000000000000 l4 (tm 9000000000000000000 (u.1 49 ((l3 * 10) + l6)) (u.1 55 l6))), .retAddr 0, iV (l6 + 1)] [] u Q)))))))) else ((0 ≤ l3) ∧ ((l3 < 10) ∧ ((rL l4) ∧ ((rL (u.1 55 l3)) ∧ (if l4 = u.1 55 l3 then (∀ u17 : uS, u17 = wr u 55 l3 l4 → (K_121 (d + 1) 4 [.ref 36, iV l1, iV (ior l2 0), iV (l3 + 1), .retAddr 0, .retAddr 0, .retAddr 0] [] u17 Q)) else (∀ u19 : uS, u19 = wr u 55 l3 l4 → (K_121 (d + 1) 4 [.ref 36, iV l1, iV (ior l2 1), iV (l3 + 1), .retAddr 0, .retAddr 0, .retAddr 0] [] u19 Q))))))))))) : K_121 (d + 1) 50 [.ref 36, iV l1, iV l2, iV l3, lV l4, .retAddr 0, iV l6] [] u Q := by
  unfold K_121
  refine u_ld (v := iV l6) (pc := 50) (dec_at lsk_121 (k := 32) rfl) rfl ?_
  refine u_ld (v := .ref 36) (pc := 52) (dec_at lsk_121 (k := 33) rfl) rfl ?_
  refine u_gR (z := 0) (pc := 53) (dec_at lsk_121 (k := 34) rfl) f_4_12 sx_36 rfl rfl ?_
  have g1 := h.1
  have h := h.2
  refine u_gI (z := 0) (pc := 56) (dec_at lsk_121 (k := 35) rfl) f_4_75 g1 rfl rfl ?_
  have g2 := h.1
  have h := h.2
  have g3 := h.1
  have h := h.2
  refine u_icF (pc := 59) (tgt := 97) (dec_at lsk_121 (k := 36) rfl) rfl (ci_ge g2 g3) (fun e4 => ?_) (fun e4 => ?_)
  · have h := ifT e4 h
    refine u_ld (v := lV l4) (pc := 62) (dec_at lsk_121 (k := 37) rfl) rfl ?_
    refine u_ld (v := .ref 36) (pc := 64) (dec_at lsk_121 (k := 38) rfl) rfl ?_
    refine u_gS (o := 13) (p := 49) (pc := 65) (dec_at lsk_121 (k := 39) rfl) f_4_29 sx_36 rfl rfl ?_
    refine u_ld (v := iV l3) (pc := 68) (dec_at lsk_121 (k := 40) rfl) rfl ?_
    refine u_c (x := 10) (pc := 69) (dec_at lsk_121 (k := 41) rfl) rfl (by decide) ?_
    refine u_imul (pc := 71) (dec_at lsk_121 (k := 42) rfl) ?_
    refine u_ld (v := iV l6) (pc := 72) (dec_at lsk_121 (k := 43) rfl) rfl ?_
    refine u_iadd (pc := 74) (dec_at lsk_121 (k := 44) rfl) ?_
    have g5 := h.1
    have h := h.2
    have g6 := h.1
    have h := h.2
    refine u_lald (pc := 75) (dec_at lsk_121 (k := 45) rfl) sx_49 g5 g6 ?_
    refine u_ld (v := .ref 36) (pc := 76) (dec_at lsk_121 (k := 46) rfl) rfl ?_
    refine u_gS (o := 19) (p := 55) (pc := 77) (dec_at lsk_121 (k := 47) rfl) f_4_47 sx_36 rfl rfl ?_
    refine u_ld (v := iV l6) (pc := 80) (dec_at lsk_121 (k := 48) rfl) rfl ?_
    have g7 := h.1
    have h := h.2
    have g8 := h.1
    have h := h.2
    refine u_lald (pc := 82) (dec_at lsk_121 (k := 49) rfl) sx_55 g7 g8 ?_
    have g9 := h.1
    have h := h.2
    have g10 := h.1
    have h := h.2
    refine u_csL (As := [lV (u.1 49 ((l3 * 10) + l6)), lV (u.1 55 l6)]) (st2 := [lV l4]) (pc := 83) (dec_at lsk_121 (k := 50) rfl) m_4_151 (Or.inr rfl) rfl (Nat.le_of_ble_eq_true rfl) (p_111 g9 g10) (fun r_ u_ h_ => ?_)
    rw [h_.1, h_.2]
    have g11 := h.1
    have h := h.2
    refine u_csL (As := [lV l4, lV (tm 9000000000000000000 (u.1 49 ((l3 * 10) + l6)) (u.1 55 l6))]) (st2 := []) (pc := 86) (dec_at lsk_121 (k := 51) rfl) m_4_136 (Or.inr rfl) rfl (Nat.le_of_ble_eq_true rfl) (p_51 g11 (cn_tm g9 g10)) (fun r_ u_ h_ => ?_)
    rw [h_.1, h_.2]
    refine u_sto (lv' := [.ref 36, iV l1, iV l2, iV l3, lV (pl 9000000000000000000 l4 (tm 9000000000000000000 (u.1 49 ((l3 * 10) + l6)) (u.1 55 l6))), .retAddr 0, iV l6]) (pc := 89) (dec_at lsk_121 (k := 52) rfl) rfl ?_
    refine u_inc (lv' := [.ref 36, iV l1, iV l2, iV l3, lV (pl 9000000000000000000 l4 (tm 9000000000000000000 (u.1 49 ((l3 * 10) + l6)) (u.1 55 l6))), .retAddr 0, iV (l6 + 1)]) (pc := 91) (dec_at lsk_121 (k := 53) rfl) rfl (by decide) rfl ?_
    refine u_goto (pc := 94) (tgt := 50) (dec_at lsk_121 (k := 54) rfl) rfl ?_
    exact h
  · have h := ifF e4 h
    refine u_ld (v := iV l2) (pc := 97) (dec_at lsk_121 (k := 55) rfl) rfl ?_
    refine u_ld (v := lV l4) (pc := 98) (dec_at lsk_121 (k := 56) rfl) rfl ?_
    refine u_ld (v := .ref 36) (pc := 100) (dec_at lsk_121 (k := 57) rfl) rfl ?_
    refine u_gS (o := 19) (p := 55) (pc := 101) (dec_at lsk_121 (k := 58) rfl) f_4_47 sx_36 rfl rfl ?_
    refine u_ld (v := iV l3) (pc := 104) (dec_at lsk_121 (k := 59) rfl) rfl ?_
    have g12 := h.1
    have h := h.2
    have g13 := h.1
    have h := h.2
    refine u_lald (pc := 105) (dec_at lsk_121 (k := 60) rfl) sx_55 g12 g13 ?_
    refine u_st (st' := [.int (lg_cmp (Int64.ofInt l4) (Int64.ofInt (u.1 55 l3))), iV l2]) (pc := 106) (dec_at lsk_121 (k := 61) rfl) rfl ?_
    have g14 := h.1
    have h := h.2
    have g15 := h.1
    have h := h.2
    refine u_ifT (pc := 107) (tgt := 114) (dec_at lsk_121 (k := 62) rfl) rfl (cl_eq g14 g15) (fun e16 => ?_) (fun e16 => ?_)
    · have h := ifT e16 h
      refine u_ld (v := iV 0) (pc := 114) (dec_at lsk_121 (k := 65) rfl) rfl ?_
      refine u_ior (pc := 115) (dec_at lsk_121 (k := 66) rfl) ?_
      refine u_sto (lv' := [.ref 36, iV l1, iV (ior l2 0), iV l3, lV l4, .retAddr 0, iV l6]) (pc := 116) (dec_at lsk_121 (k := 67) rfl) rfl ?_
      refine u_ld (v := .ref 36) (pc := 117) (dec_at lsk_121 (k := 68) rfl) rfl ?_
      refine u_gS (o := 19) (p := 55) (pc := 118) (dec_at lsk_121 (k := 69) rfl) f_4_47 sx_36 rfl rfl ?_
      refine u_ld (v := iV l3) (pc := 121) (dec_at lsk_121 (k := 70) rfl) rfl ?_
      refine u_ld (v := lV l4) (pc := 122) (dec_at lsk_121 (k := 71) rfl) rfl ?_
      refine u_last (pc := 124) (dec_at lsk_121 (k := 72) rfl) sx_55 g12 g13 (fun u17 e18 => ?_)
      have h := h u17 e18
      refine u_inc (lv' := [.ref 36, iV l1, iV (ior l2 0), iV (l3 + 1), lV l4, .retAddr 0, iV l6]) (pc := 125) (dec_at lsk_121 (k := 73) rfl) rfl (by decide) rfl ?_
      refine u_goto (pc := 128) (tgt := 4) (dec_at lsk_121 (k := 74) rfl) rfl ?_
      exact u_weak (sbK (sbK (sbK (sbK (sbD (sbK (sbD sb0))))))) h
    · have h := ifF e16 h
      refine u_ld (v := iV 1) (pc := 110) (dec_at lsk_121 (k := 63) rfl) rfl ?_
      refine u_goto (pc := 111) (tgt := 115) (dec_at lsk_121 (k := 64) rfl) rfl ?_
      refine u_ior (pc := 115) (dec_at lsk_121 (k := 66) rfl) ?_
      refine u_sto (lv' := [.ref 36, iV l1, iV (ior l2 1), iV l3, lV l4, .retAddr 0, iV l6]) (pc := 116) (dec_at lsk_121 (k := 67) rfl) rfl ?_
      refine u_ld (v := .ref 36) (pc := 117) (dec_at lsk_121 (k := 68) rfl) rfl ?_
      refine u_gS (o := 19) (p := 55) (pc := 118) (dec_at lsk_121 (k := 69) rfl) f_4_47 sx_36 rfl rfl ?_
      refine u_ld (v := iV l3) (pc := 121) (dec_at lsk_121 (k := 70) rfl) rfl ?_
      refine u_ld (v := lV l4) (pc := 122) (dec_at lsk_121 (k := 71) rfl) rfl ?_
      refine u_last (pc := 124) (dec_at lsk_121 (k := 72) rfl) sx_55 g12 g13 (fun u19 e20 => ?_)
      have h := h u19 e20
      refine u_inc (lv' := [.ref 36, iV l1, iV (ior l2 1), iV (l3 + 1), lV l4, .retAddr 0, iV l6]) (pc := 125) (dec_at lsk_121 (k := 73) rfl) rfl (by decide) rfl ?_
      refine u_goto (pc := 128) (tgt := 4) (dec_at lsk_121 (k := 74) rfl) rfl ?_
      exact u_weak (sbK (sbK (sbK (sbK (sbD (sbK (sbD sb0))))))) h
/-- method 122 -/
def K_122 (d pc : Nat) (lv : ev_L) (st : List Value) (u : uS) (Q : uS → Prop) : Prop := okU d 4 7 false none prog_11_method_23_code (qV Q) pc lv st u
theorem e_122 {d : Nat} {Q : uS → Prop} {u : uS} {l1 : Int} (h : K_122 (d + 1) 2 [.ref 36, iV l1, iV 0, .retAddr 0, .retAddr 0, .retAddr 0, .retAddr 0] [] u Q) : cV (d + 2) 122 [.ref 36, iV l1] u Q := by
  refine u_of me_122 (Nat.le_of_ble_eq_true rfl) ?_
  refine u_ld (v := iV 0) (pc := 0) (dec_at lsk_122 (k := 0) rfl) rfl ?_
  refine u_sto (lv' := [.ref 36, iV l1, iV 0, .retAddr 0, .retAddr 0, .retAddr 0, .retAddr 0]) (pc := 1) (dec_at lsk_122 (k := 1) rfl) rfl ?_
  exact h
theorem k_122_2 {d : Nat} {Q : uS → Prop} {u : uS} {l1 l2 : Int} (h : (isO (u.2 36 0) 2) ∧ ((rI l2) ∧ ((rI (u.1 (u.2 36 0) 1)) ∧ (if l2 < u.1 (u.2 36 0) 1 then ((0 ≤ (((l2 * 7) + 0) * 41) + l1) ∧ (((((l2 * 7) + 0) * 41) + l1 < 8610) ∧ (∀ u7 : uS, u7 = wr u 52 ((((l2 * 7) + 0) * 41) + l1) 0 → (K_122 (d + 1) 27 [.ref 36, iV l1, iV l2, iV 1, .retAddr 0, .retAddr 0, .retAddr 0] [] u7 Q)))) else (Q u))))) : K_122 (d + 1) 2 [.ref 36, iV l1, iV l2, .retAddr 0, .retAddr 0, .retAddr 0, .retAddr 0] [] u Q := by
  unfold K_122
  refine u_ld (v := iV l2) (pc := 2) (dec_at lsk_122 (k := 2) rfl) rfl ?_
  refine u_ld (v := .ref 36) (pc := 3) (dec_at lsk_122 (k := 3) rfl) rfl ?_
  refine u_gR (z := 0) (pc := 4) (dec_at lsk_122 (k := 4) rfl) f_4_12 sx_36 rfl rfl ?_
  have g1 := h.1
  have h := h.2
  refine u_gI (z := 1) (pc := 7) (dec_at lsk_122 (k := 5) rfl) f_4_103 g1 rfl rfl ?_
  have g2 := h.1
  have h := h.2
  have g3 := h.1
  have h := h.2
  refine u_icF (pc := 10) (tgt := 160) (dec_at lsk_122 (k := 6) rfl) rfl (ci_ge g2 g3) (fun e4 => ?_) (fun e4 => ?_)
  · have h := ifT e4 h
    refine u_ld (v := .ref 36) (pc := 13) (dec_at lsk_122 (k := 7) rfl) rfl ?_
    refine u_gS (o := 16) (p := 52) (pc := 14) (dec_at lsk_122 (k := 8) rfl) f_4_38 sx_36 rfl rfl ?_
    refine u_ld (v := iV l2) (pc := 17) (dec_at lsk_122 (k := 9) rfl) rfl ?_
    refine u_ld (v := iV 0) (pc := 18) (dec_at lsk_122 (k := 10) rfl) rfl ?_
    refine u_ld (v := iV l1) (pc := 19) (dec_at lsk_122 (k := 11) rfl) rfl ?_
    refine u_csI (As := [iV l2, iV 0, iV l1]) (st2 := [.ref 52]) (pc := 20) (dec_at lsk_122 (k := 12) rfl) m_4_160 (Or.inl rfl) rfl (Nat.le_of_ble_eq_true rfl) ?_ (fun _ _ h_ => h_)
    refine u_of me_115 (Nat.le_of_ble_eq_true rfl) ?_
    refine u_ld (v := iV l2) (pc := 0) (dec_at lsk_115 (k := 0) rfl) rfl ?_
    refine u_c (x := 7) (pc := 1) (dec_at lsk_115 (k := 1) rfl) rfl (by decide) ?_
    refine u_imul (pc := 3) (dec_at lsk_115 (k := 2) rfl) ?_
    refine u_ld (v := iV 0) (pc := 4) (dec_at lsk_115 (k := 3) rfl) rfl ?_
    refine u_iadd (pc := 5) (dec_at lsk_115 (k := 4) rfl) ?_
    refine u_c (x := 41) (pc := 6) (dec_at lsk_115 (k := 5) rfl) rfl (by decide) ?_
    refine u_imul (pc := 8) (dec_at lsk_115 (k := 6) rfl) ?_
    refine u_ld (v := iV l1) (pc := 9) (dec_at lsk_115 (k := 7) rfl) rfl ?_
    refine u_iadd (pc := 10) (dec_at lsk_115 (k := 8) rfl) ?_
    refine u_rI (pc := 11) (dec_at lsk_115 (k := 9) rfl) rfl ?_
    refine u_cl (x := 0) (pc := 23) (dec_at lsk_122 (k := 13) rfl) rfl (by decide) ?_
    have g5 := h.1
    have h := h.2
    have g6 := h.1
    have h := h.2
    refine u_last (pc := 24) (dec_at lsk_122 (k := 14) rfl) sx_52 g5 g6 (fun u7 e8 => ?_)
    have h := h u7 e8
    refine u_ld (v := iV 1) (pc := 25) (dec_at lsk_122 (k := 15) rfl) rfl ?_
    refine u_sto (lv' := [.ref 36, iV l1, iV l2, iV 1, .retAddr 0, .retAddr 0, .retAddr 0]) (pc := 26) (dec_at lsk_122 (k := 16) rfl) rfl ?_
    exact h
  · have h := ifF e4 h
    exact u_rV (pc := 160) (dec_at lsk_122 (k := 92) rfl) rfl h
theorem k_122_27 {d : Nat} {Q : uS → Prop} {u : uS} {l1 l2 l3 : Int} (h : (isO (u.2 36 0) 2) ∧ ((0 ≤ l2) ∧ ((l2 < 30) ∧ ((rI l3) ∧ ((rI (u.1 ((u.2 36 0) + 3) l2)) ∧ (if u.1 ((u.2 36 0) + 3) l2 < l3 then (K_122 (d + 1) 2 [.ref 36, iV l1, iV (l2 + 1), .retAddr 0, .retAddr 0, .retAddr 0, .retAddr 0] [] u Q) else ((0 ≤ (l2 * 6) + (l3 - 1)) ∧ (((l2 * 6) + (l3 - 1) < 180) ∧ ((0 ≤ (l2 * 7) + l3) ∧ (((l2 * 7) + l3 < 210) ∧ ((rI (u.1 ((u.2 36 0) + 4) ((l2 * 6) + (l3 - 1)))) ∧ (if u.1 ((u.2 36 0) + 4) ((l2 * 6) + (l3 - 1)) < 100 then ((0 ≤ (((l2 * 7) + l3) * 41) + l1) ∧ (((((l2 * 7) + l3) * 41) + l1 < 8610) ∧ (∀ u15 : uS, u15 = wr u 52 ((((l2 * 7) + l3) * 41) + l1) (u.1 53 ((l2 * 7) + l3)) → (K_122 (d + 1) 27 [.ref 36, iV l1, iV l2, iV (l3 + 1), .retAddr 0, .retAddr 0, .retAddr 0] [] u15 Q)))) else ((0 ≤ ((l2 * 7) + l3) - 1) ∧ ((((l2 * 7) + l3) - 1 < 210) ∧ ((0 ≤ (u.1 ((u.2 36 0) + 4) ((l2 * 6) + (l3 - 1))) - 100) ∧ (((u.1 ((u.2 36 0) + 4) ((l2 * 6) + (l3 - 1))) - 100 < 10) ∧ ((cn 9000000000000000000 (u.1 48 (((l2 * 7) + l3) - 1))) ∧ ((cn 9000000000000000000 (u.1 55 ((u.1 ((u.2 36 0) + 4) ((l2 * 6) + (l3 - 1))) - 100))) ∧ ((cn 9000000000000000000 (u.1 53 ((l2 * 7) + l3))) ∧ ((0 ≤ (((l2 * 7) + (l3 - 1)) * 41) + l1) ∧ (((((l2 * 7) + (l3 - 1)) * 41) + l1 < 8610) ∧ ((cn 9000000000000000000 (u.1 52 ((((l2 * 7) + (l3 - 1)) * 41) + l1))) ∧ ((cn 9000000000000000000 (u.1 47 ((u.1 ((u.2 36 0) + 4) ((l2 * 6) + (l3 - 1))) - 100))) ∧ ((0 ≤ (((l2 * 7) + l3) * 41) + l1) ∧ (((((l2 * 7) + l3) * 41) + l1 < 8610) ∧ (∀ u31 : uS, u31 = wr u 52 ((((l2 * 7) + l3) * 41) + l1) (pl 9000000000000000000 (pl 9000000000000000000 (u.1 53 ((l2 * 7) + l3)) (tm 9000000000000000000 (u.1 48 (((l2 * 7) + l3) - 1)) (u.1 55 ((u.1 ((u.2 36 0) + 4) ((l2 * 6) + (l3 - 1))) - 100)))) (tm 9000000000000000000 (u.1 52 ((((l2 * 7) + (l3 - 1)) * 41) + l1)) (u.1 47 ((u.1 ((u.2 36 0) + 4) ((l2 * 6) + (l3 - 1))) - 100)))) → (K_122 (d + 1) 27 [.ref 36, iV l1, iV l2, iV (l3 + 1), .retAddr 0, .retAddr 0, .retAddr 0] [] u31 Q))))))))))))))))))))))))))) : K_122 (d + 1) 27 [.ref 36, iV l1, iV l2, iV l3, .retAddr 0, .retAddr 0, .retAddr 0] [] u Q := by
  unfold K_122
  refine u_ld (v := iV l3) (pc := 27) (dec_at lsk_122 (k := 17) rfl) rfl ?_
  refine u_ld (v := .ref 36) (pc := 28) (dec_at lsk_122 (k := 18) rfl) rfl ?_
  refine u_gR (z := 0) (pc := 29) (dec_at lsk_122 (k := 19) rfl) f_4_12 sx_36 rfl rfl ?_
  have g1 := h.1
  have h := h.2
  refine u_gS (o := 3) (p := (u.2 36 0) + 3) (pc := 32) (dec_at lsk_122 (k := 20) rfl) f_4_129 g1 rfl rfl ?_
  refine u_ld (v := iV l2) (pc := 35) (dec_at lsk_122 (k := 21) rfl) rfl ?_
  have g2 := h.1
  have h := h.2
  have g3 := h.1
  have h := h.2
  refine u_iald (pc := 36) (dec_at lsk_122 (k := 22) rfl) (sa_2_4 g1) g2 g3 ?_
  have g4 := h.1
  have h := h.2
  have g5 := h.1
  have h := h.2
  refine u_icT (pc := 37) (tgt := 154) (dec_at lsk_122 (k := 23) rfl) rfl (ci_gt g4 g5) (fun e6 => ?_) (fun e6 => ?_)
  · have h := ifT e6 h
    refine u_inc (lv' := [.ref 36, iV l1, iV (l2 + 1), iV l3, .retAddr 0, .retAddr 0, .retAddr 0]) (pc := 154) (dec_at lsk_122 (k := 90) rfl) rfl (by decide) rfl ?_
    refine u_goto (pc := 157) (tgt := 2) (dec_at lsk_122 (k := 91) rfl) rfl ?_
    exact u_weak (sbK (sbK (sbK (sbD (sbK (sbK (sbK sb0))))))) h
  · have h := ifF e6 h
    refine u_ld (v := .ref 36) (pc := 40) (dec_at lsk_122 (k := 24) rfl) rfl ?_
    refine u_gR (z := 0) (pc := 41) (dec_at lsk_122 (k := 25) rfl) f_4_12 sx_36 rfl rfl ?_
    refine u_ld (v := iV l2) (pc := 44) (dec_at lsk_122 (k := 26) rfl) rfl ?_
    refine u_ld (v := iV l3) (pc := 45) (dec_at lsk_122 (k := 27) rfl) rfl ?_
    refine u_ld (v := iV 1) (pc := 46) (dec_at lsk_122 (k := 28) rfl) rfl ?_
    refine u_isub (pc := 47) (dec_at lsk_122 (k := 29) rfl) ?_
    refine u_cvI (As := [iV l2, iV (l3 - 1)]) (rb := u.2 36 0) (st2 := []) (pc := 48) (dec_at lsk_122 (k := 30) rfl) m_4_140 (Or.inl rfl) rfl (Nat.le_of_ble_eq_true rfl) g1 me_42 rfl ?_ (fun _ _ h_ => h_)
    refine u_of me_42 (Nat.le_of_ble_eq_true rfl) ?_
    refine u_ld (v := .ref (u.2 36 0)) (pc := 0) (dec_at lsk_42 (k := 0) rfl) rfl ?_
    refine u_gS (o := 4) (p := (u.2 36 0) + 4) (pc := 1) (dec_at lsk_42 (k := 1) rfl) f_2_21 g1 rfl rfl ?_
    refine u_ld (v := iV l2) (pc := 4) (dec_at lsk_42 (k := 2) rfl) rfl ?_
    refine u_c (x := 6) (pc := 5) (dec_at lsk_42 (k := 3) rfl) rfl (by decide) ?_
    refine u_imul (pc := 7) (dec_at lsk_42 (k := 4) rfl) ?_
    refine u_ld (v := iV (l3 - 1)) (pc := 8) (dec_at lsk_42 (k := 5) rfl) rfl ?_
    refine u_iadd (pc := 9) (dec_at lsk_42 (k := 6) rfl) ?_
    have g7 := h.1
    have h := h.2
    have g8 := h.1
    have h := h.2
    refine u_iald (pc := 10) (dec_at lsk_42 (k := 7) rfl) (sa_2_5 g1) g7 g8 ?_
    refine u_rI (pc := 11) (dec_at lsk_42 (k := 8) rfl) rfl ?_
    refine u_sto (lv' := [.ref 36, iV l1, iV l2, iV l3, iV (u.1 ((u.2 36 0) + 4) ((l2 * 6) + (l3 - 1))), .retAddr 0, .retAddr 0]) (pc := 51) (dec_at lsk_122 (k := 31) rfl) rfl ?_
    refine u_ld (v := .ref 36) (pc := 53) (dec_at lsk_122 (k := 32) rfl) rfl ?_
    refine u_gS (o := 17) (p := 53) (pc := 54) (dec_at lsk_122 (k := 33) rfl) f_4_41 sx_36 rfl rfl ?_
    refine u_ld (v := iV l2) (pc := 57) (dec_at lsk_122 (k := 34) rfl) rfl ?_
    refine u_c (x := 7) (pc := 58) (dec_at lsk_122 (k := 35) rfl) rfl (by decide) ?_
    refine u_imul (pc := 60) (dec_at lsk_122 (k := 36) rfl) ?_
    refine u_ld (v := iV l3) (pc := 61) (dec_at lsk_122 (k := 37) rfl) rfl ?_
    refine u_iadd (pc := 62) (dec_at lsk_122 (k := 38) rfl) ?_
    have g9 := h.1
    have h := h.2
    have g10 := h.1
    have h := h.2
    refine u_lald (pc := 63) (dec_at lsk_122 (k := 39) rfl) sx_53 g9 g10 ?_
    refine u_sto (lv' := [.ref 36, iV l1, iV l2, iV l3, iV (u.1 ((u.2 36 0) + 4) ((l2 * 6) + (l3 - 1))), lV (u.1 53 ((l2 * 7) + l3)), .retAddr 0]) (pc := 64) (dec_at lsk_122 (k := 40) rfl) rfl ?_
    refine u_ld (v := iV (u.1 ((u.2 36 0) + 4) ((l2 * 6) + (l3 - 1)))) (pc := 66) (dec_at lsk_122 (k := 41) rfl) rfl ?_
    refine u_c (x := 100) (pc := 68) (dec_at lsk_122 (k := 42) rfl) rfl (by decide) ?_
    have g11 := h.1
    have h := h.2
    refine u_icT (pc := 70) (tgt := 135) (dec_at lsk_122 (k := 43) rfl) rfl (ci_lt g11 (by decide)) (fun e12 => ?_) (fun e12 => ?_)
    · have h := ifT e12 h
      refine u_ld (v := .ref 36) (pc := 135) (dec_at lsk_122 (k := 80) rfl) rfl ?_
      refine u_gS (o := 16) (p := 52) (pc := 136) (dec_at lsk_122 (k := 81) rfl) f_4_38 sx_36 rfl rfl ?_
      refine u_ld (v := iV l2) (pc := 139) (dec_at lsk_122 (k := 82) rfl) rfl ?_
      refine u_ld (v := iV l3) (pc := 140) (dec_at lsk_122 (k := 83) rfl) rfl ?_
      refine u_ld (v := iV l1) (pc := 141) (dec_at lsk_122 (k := 84) rfl) rfl ?_
      refine u_csI (As := [iV l2, iV l3, iV l1]) (st2 := [.ref 52]) (pc := 142) (dec_at lsk_122 (k := 85) rfl) m_4_160 (Or.inl rfl) rfl (Nat.le_of_ble_eq_true rfl) ?_ (fun _ _ h_ => h_)
      refine u_of me_115 (Nat.le_of_ble_eq_true rfl) ?_
      refine u_ld (v := iV l2) (pc := 0) (dec_at lsk_115 (k := 0) rfl) rfl ?_
      refine u_c (x := 7) (pc := 1) (dec_at lsk_115 (k := 1) rfl) rfl (by decide) ?_
      refine u_imul (pc := 3) (dec_at lsk_115 (k := 2) rfl) ?_
      refine u_ld (v := iV l3) (pc := 4) (dec_at lsk_115 (k := 3) rfl) rfl ?_
      refine u_iadd (pc := 5) (dec_at lsk_115 (k := 4) rfl) ?_
      refine u_c (x := 41) (pc := 6) (dec_at lsk_115 (k := 5) rfl) rfl (by decide) ?_
      refine u_imul (pc := 8) (dec_at lsk_115 (k := 6) rfl) ?_
      refine u_ld (v := iV l1) (pc := 9) (dec_at lsk_115 (k := 7) rfl) rfl ?_
      refine u_iadd (pc := 10) (dec_at lsk_115 (k := 8) rfl) ?_
      refine u_rI (pc := 11) (dec_at lsk_115 (k := 9) rfl) rfl ?_
      refine u_ld (v := lV (u.1 53 ((l2 * 7) + l3))) (pc := 145) (dec_at lsk_122 (k := 86) rfl) rfl ?_
      have g13 := h.1
      have h := h.2
      have g14 := h.1
      have h := h.2
      refine u_last (pc := 147) (dec_at lsk_122 (k := 87) rfl) sx_52 g13 g14 (fun u15 e16 => ?_)
      have h := h u15 e16
      refine u_inc (lv' := [.ref 36, iV l1, iV l2, iV (l3 + 1), iV (u.1 ((u.2 36 0) + 4) ((l2 * 6) + (l3 - 1))), lV (u.1 53 ((l2 * 7) + l3)), .retAddr 0]) (pc := 148) (dec_at lsk_122 (k := 88) rfl) rfl (by decide) rfl ?_
      refine u_goto (pc := 151) (tgt := 27) (dec_at lsk_122 (k := 89) rfl) rfl ?_
      exact u_weak (sbK (sbK (sbK (sbK (sbD (sbD (sbK sb0))))))) h
    · have h := ifF e12 h
      refine u_ld (v := lV (u.1 53 ((l2 * 7) + l3))) (pc := 73) (dec_at lsk_122 (k := 44) rfl) rfl ?_
      refine u_ld (v := .ref 36) (pc := 75) (dec_at lsk_122 (k := 45) rfl) rfl ?_
      refine u_gS (o := 12) (p := 48) (pc := 76) (dec_at lsk_122 (k := 46) rfl) f_4_26 sx_36 rfl rfl ?_
      refine u_ld (v := iV l2) (pc := 79) (dec_at lsk_122 (k := 47) rfl) rfl ?_
      refine u_c (x := 7) (pc := 80) (dec_at lsk_122 (k := 48) rfl) rfl (by decide) ?_
      refine u_imul (pc := 82) (dec_at lsk_122 (k := 49) rfl) ?_
      refine u_ld (v := iV l3) (pc := 83) (dec_at lsk_122 (k := 50) rfl) rfl ?_
      refine u_iadd (pc := 84) (dec_at lsk_122 (k := 51) rfl) ?_
      refine u_ld (v := iV 1) (pc := 85) (dec_at lsk_122 (k := 52) rfl) rfl ?_
      refine u_isub (pc := 86) (dec_at lsk_122 (k := 53) rfl) ?_
      have g17 := h.1
      have h := h.2
      have g18 := h.1
      have h := h.2
      refine u_lald (pc := 87) (dec_at lsk_122 (k := 54) rfl) sx_48 g17 g18 ?_
      refine u_ld (v := .ref 36) (pc := 88) (dec_at lsk_122 (k := 55) rfl) rfl ?_
      refine u_gS (o := 19) (p := 55) (pc := 89) (dec_at lsk_122 (k := 56) rfl) f_4_47 sx_36 rfl rfl ?_
      refine u_ld (v := iV (u.1 ((u.2 36 0) + 4) ((l2 * 6) + (l3 - 1)))) (pc := 92) (dec_at lsk_122 (k := 57) rfl) rfl ?_
      refine u_c (x := 100) (pc := 94) (dec_at lsk_122 (k := 58) rfl) rfl (by decide) ?_
      refine u_isub (pc := 96) (dec_at lsk_122 (k := 59) rfl) ?_
      have g19 := h.1
      have h := h.2
      have g20 := h.1
      have h := h.2
      refine u_lald (pc := 97) (dec_at lsk_122 (k := 60) rfl) sx_55 g19 g20 ?_
      have g21 := h.1
      have h := h.2
      have g22 := h.1
      have h := h.2
      refine u_csL (As := [lV (u.1 48 (((l2 * 7) + l3) - 1)), lV (u.1 55 ((u.1 ((u.2 36 0) + 4) ((l2 * 6) + (l3 - 1))) - 100))]) (st2 := [lV (u.1 53 ((l2 * 7) + l3))]) (pc := 98) (dec_at lsk_122 (k := 61) rfl) m_4_151 (Or.inr rfl) rfl (Nat.le_of_ble_eq_true rfl) (p_111 g21 g22) (fun r_ u_ h_ => ?_)
      rw [h_.1, h_.2]
      have g23 := h.1
      have h := h.2
      refine u_csL (As := [lV (u.1 53 ((l2 * 7) + l3)), lV (tm 9000000000000000000 (u.1 48 (((l2 * 7) + l3) - 1)) (u.1 55 ((u.1 ((u.2 36 0) + 4) ((l2 * 6) + (l3 - 1))) - 100)))]) (st2 := []) (pc := 101) (dec_at lsk_122 (k := 62) rfl) m_4_136 (Or.inr rfl) rfl (Nat.le_of_ble_eq_true rfl) (p_51 g23 (cn_tm g21 g22)) (fun r_ u_ h_ => ?_)
      rw [h_.1, h_.2]
      refine u_sto (lv' := [.ref 36, iV l1, iV l2, iV l3, iV (u.1 ((u.2 36 0) + 4) ((l2 * 6) + (l3 - 1))), lV (pl 9000000000000000000 (u.1 53 ((l2 * 7) + l3)) (tm 9000000000000000000 (u.1 48 (((l2 * 7) + l3) - 1)) (u.1 55 ((u.1 ((u.2 36 0) + 4) ((l2 * 6) + (l3 - 1))) - 100)))), .retAddr 0]) (pc := 104) (dec_at lsk_122 (k := 63) rfl) rfl ?_
      refine u_ld (v := lV (pl 9000000000000000000 (u.1 53 ((l2 * 7) + l3)) (tm 9000000000000000000 (u.1 48 (((l2 * 7) + l3) - 1)) (u.1 55 ((u.1 ((u.2 36 0) + 4) ((l2 * 6) + (l3 - 1))) - 100))))) (pc := 106) (dec_at lsk_122 (k := 64) rfl) rfl ?_
      refine u_ld (v := .ref 36) (pc := 108) (dec_at lsk_122 (k := 65) rfl) rfl ?_
      refine u_gS (o := 16) (p := 52) (pc := 109) (dec_at lsk_122 (k := 66) rfl) f_4_38 sx_36 rfl rfl ?_
      refine u_ld (v := iV l2) (pc := 112) (dec_at lsk_122 (k := 67) rfl) rfl ?_
      refine u_ld (v := iV l3) (pc := 113) (dec_at lsk_122 (k := 68) rfl) rfl ?_
      refine u_ld (v := iV 1) (pc := 114) (dec_at lsk_122 (k := 69) rfl) rfl ?_
      refine u_isub (pc := 115) (dec_at lsk_122 (k := 70) rfl) ?_
      refine u_ld (v := iV l1) (pc := 116) (dec_at lsk_122 (k := 71) rfl) rfl ?_
      refine u_csI (As := [iV l2, iV (l3 - 1), iV l1]) (st2 := [.ref 52, lV (pl 9000000000000000000 (u.1 53 ((l2 * 7) + l3)) (tm 9000000000000000000 (u.1 48 (((l2 * 7) + l3) - 1)) (u.1 55 ((u.1 ((u.2 36 0) + 4) ((l2 * 6) + (l3 - 1))) - 100))))]) (pc := 117) (dec_at lsk_122 (k := 72) rfl) m_4_160 (Or.inl rfl) rfl (Nat.le_of_ble_eq_true rfl) ?_ (fun _ _ h_ => h_)
      refine u_of me_115 (Nat.le_of_ble_eq_true rfl) ?_
      refine u_ld (v := iV l2) (pc := 0) (dec_at lsk_115 (k := 0) rfl) rfl ?_
      refine u_c (x := 7) (pc := 1) (dec_at lsk_115 (k := 1) rfl) rfl (by decide) ?_
      refine u_imul (pc := 3) (dec_at lsk_115 (k := 2) rfl) ?_
      refine u_ld (v := iV (l3 - 1)) (pc := 4) (dec_at lsk_115 (k := 3) rfl) rfl ?_
      refine u_iadd (pc := 5) (dec_at lsk_115 (k := 4) rfl) ?_
      refine u_c (x := 41) (pc := 6) (dec_at lsk_115 (k := 5) rfl) rfl (by decide) ?_
      refine u_imul (pc := 8) (dec_at lsk_115 (k := 6) rfl) ?_
      refine u_ld (v := iV l1) (pc := 9) (dec_at lsk_115 (k := 7) rfl) rfl ?_
      refine u_iadd (pc := 10) (dec_at lsk_115 (k := 8) rfl) ?_
      refine u_rI (pc := 11) (dec_at lsk_115 (k := 9) rfl) rfl ?_
      have g24 := h.1
      have h := h.2
      have g25 := h.1
      have h := h.2
      refine u_lald (pc := 120) (dec_at lsk_122 (k := 73) rfl) sx_52 g24 g25 ?_
      refine u_ld (v := .ref 36) (pc := 121) (dec_at lsk_122 (k := 74) rfl) rfl ?_
      refine u_ld (v := iV (u.1 ((u.2 36 0) + 4) ((l2 * 6) + (l3 - 1)))) (pc := 122) (dec_at lsk_122 (k := 75) rfl) rfl ?_
      refine u_cvL (As := [iV (u.1 ((u.2 36 0) + 4) ((l2 * 6) + (l3 - 1)))]) (rb := 36) (st2 := [lV (u.1 52 ((((l2 * 7) + (l3 - 1)) * 41) + l1)), lV (pl 9000000000000000000 (u.1 53 ((l2 * 7) + l3)) (tm 9000000000000000000 (u.1 48 (((l2 * 7) + l3) - 1)) (u.1 55 ((u.1 ((u.2 36 0) + 4) ((l2 * 6) + (l3 - 1))) - 100))))]) (pc := 124) (dec_at lsk_122 (k := 76) rfl) m_4_147 (Or.inl rfl) rfl (Nat.le_of_ble_eq_true rfl) sx_36 me_110 rfl ?_ (fun _ _ h_ => h_)
      refine u_of me_110 (Nat.le_of_ble_eq_true rfl) ?_
      refine u_ld (v := iV (u.1 ((u.2 36 0) + 4) ((l2 * 6) + (l3 - 1)))) (pc := 0) (dec_at lsk_110 (k := 0) rfl) rfl ?_
      refine u_c (x := 100) (pc := 1) (dec_at lsk_110 (k := 1) rfl) rfl (by decide) ?_
      refine u_icF (pc := 3) (tgt := 10) (dec_at lsk_110 (k := 2) rfl) rfl (ci_ge g11 (by decide)) (fun e26 => absurd e26 e12) (fun _ => ?_)
      refine u_ld (v := .ref 36) (pc := 10) (dec_at lsk_110 (k := 5) rfl) rfl ?_
      refine u_gS (o := 11) (p := 47) (pc := 11) (dec_at lsk_110 (k := 6) rfl) f_4_22 sx_36 rfl rfl ?_
      refine u_ld (v := iV (u.1 ((u.2 36 0) + 4) ((l2 * 6) + (l3 - 1)))) (pc := 14) (dec_at lsk_110 (k := 7) rfl) rfl ?_
      refine u_c (x := 100) (pc := 15) (dec_at lsk_110 (k := 8) rfl) rfl (by decide) ?_
      refine u_isub (pc := 17) (dec_at lsk_110 (k := 9) rfl) ?_
      refine u_lald (pc := 18) (dec_at lsk_110 (k := 10) rfl) sx_47 g19 g20 ?_
      refine u_rL (pc := 19) (dec_at lsk_110 (k := 11) rfl) rfl ?_
      have g27 := h.1
      have h := h.2
      have g28 := h.1
      have h := h.2
      refine u_csL (As := [lV (u.1 52 ((((l2 * 7) + (l3 - 1)) * 41) + l1)), lV (u.1 47 ((u.1 ((u.2 36 0) + 4) ((l2 * 6) + (l3 - 1))) - 100))]) (st2 := [lV (pl 9000000000000000000 (u.1 53 ((l2 * 7) + l3)) (tm 9000000000000000000 (u.1 48 (((l2 * 7) + l3) - 1)) (u.1 55 ((u.1 ((u.2 36 0) + 4) ((l2 * 6) + (l3 - 1))) - 100))))]) (pc := 127) (dec_at lsk_122 (k := 77) rfl) m_4_151 (Or.inr rfl) rfl (Nat.le_of_ble_eq_true rfl) (p_111 g27 g28) (fun r_ u_ h_ => ?_)
      rw [h_.1, h_.2]
      refine u_csL (As := [lV (pl 9000000000000000000 (u.1 53 ((l2 * 7) + l3)) (tm 9000000000000000000 (u.1 48 (((l2 * 7) + l3) - 1)) (u.1 55 ((u.1 ((u.2 36 0) + 4) ((l2 * 6) + (l3 - 1))) - 100)))), lV (tm 9000000000000000000 (u.1 52 ((((l2 * 7) + (l3 - 1)) * 41) + l1)) (u.1 47 ((u.1 ((u.2 36 0) + 4) ((l2 * 6) + (l3 - 1))) - 100)))]) (st2 := []) (pc := 130) (dec_at lsk_122 (k := 78) rfl) m_4_136 (Or.inr rfl) rfl (Nat.le_of_ble_eq_true rfl) (p_51 (cn_pl g23 (cn_tm g21 g22)) (cn_tm g27 g28)) (fun r_ u_ h_ => ?_)
      rw [h_.1, h_.2]
      refine u_sto (lv' := [.ref 36, iV l1, iV l2, iV l3, iV (u.1 ((u.2 36 0) + 4) ((l2 * 6) + (l3 - 1))), lV (pl 9000000000000000000 (pl 9000000000000000000 (u.1 53 ((l2 * 7) + l3)) (tm 9000000000000000000 (u.1 48 (((l2 * 7) + l3) - 1)) (u.1 55 ((u.1 ((u.2 36 0) + 4) ((l2 * 6) + (l3 - 1))) - 100)))) (tm 9000000000000000000 (u.1 52 ((((l2 * 7) + (l3 - 1)) * 41) + l1)) (u.1 47 ((u.1 ((u.2 36 0) + 4) ((l2 * 6) + (l3 - 1))) - 100)))), .retAddr 0]) (pc := 133) (dec_at lsk_122 (k := 79) rfl) rfl ?_
      refine u_ld (v := .ref 36) (pc := 135) (dec_at lsk_122 (k := 80) rfl) rfl ?_
      refine u_gS (o := 16) (p := 52) (pc := 136) (dec_at lsk_122 (k := 81) rfl) f_4_38 sx_36 rfl rfl ?_
      refine u_ld (v := iV l2) (pc := 139) (dec_at lsk_122 (k := 82) rfl) rfl ?_
      refine u_ld (v := iV l3) (pc := 140) (dec_at lsk_122 (k := 83) rfl) rfl ?_
      refine u_ld (v := iV l1) (pc := 141) (dec_at lsk_122 (k := 84) rfl) rfl ?_
      refine u_csI (As := [iV l2, iV l3, iV l1]) (st2 := [.ref 52]) (pc := 142) (dec_at lsk_122 (k := 85) rfl) m_4_160 (Or.inl rfl) rfl (Nat.le_of_ble_eq_true rfl) ?_ (fun _ _ h_ => h_)
      refine u_of me_115 (Nat.le_of_ble_eq_true rfl) ?_
      refine u_ld (v := iV l2) (pc := 0) (dec_at lsk_115 (k := 0) rfl) rfl ?_
      refine u_c (x := 7) (pc := 1) (dec_at lsk_115 (k := 1) rfl) rfl (by decide) ?_
      refine u_imul (pc := 3) (dec_at lsk_115 (k := 2) rfl) ?_
      refine u_ld (v := iV l3) (pc := 4) (dec_at lsk_115 (k := 3) rfl) rfl ?_
      refine u_iadd (pc := 5) (dec_at lsk_115 (k := 4) rfl) ?_
      refine u_c (x := 41) (pc := 6) (dec_at lsk_115 (k := 5) rfl) rfl (by decide) ?_
      refine u_imul (pc := 8) (dec_at lsk_115 (k := 6) rfl) ?_
      refine u_ld (v := iV l1) (pc := 9) (dec_at lsk_115 (k := 7) rfl) rfl ?_
      refine u_iadd (pc := 10) (dec_at lsk_115 (k := 8) rfl) ?_
      refine u_rI (pc := 11) (dec_at lsk_115 (k := 9) rfl) rfl ?_
      refine u_ld (v := lV (pl 9000000000000000000 (pl 9000000000000000000 (u.1 53 ((l2 * 7) + l3)) (tm 9000000000000000000 (u.1 48 (((l2 * 7) + l3) - 1)) (u.1 55 ((u.1 ((u.2 36 0) + 4) ((l2 * 6) + (l3 - 1))) - 100)))) (tm 9000000000000000000 (u.1 52 ((((l2 * 7) + (l3 - 1)) * 41) + l1)) (u.1 47 ((u.1 ((u.2 36 0) + 4) ((l2 * 6) + (l3 - 1))) - 100))))) (pc := 145) (dec_at lsk_122 (k := 86) rfl) rfl ?_
      have g29 := h.1
      have h := h.2
      have g30 := h.1
      have h := h.2
      refine u_last (pc := 147) (dec_at lsk_122 (k := 87) rfl) sx_52 g29 g30 (fun u31 e32 => ?_)
      have h := h u31 e32
      refine u_inc (lv' := [.ref 36, iV l1, iV l2, iV (l3 + 1), iV (u.1 ((u.2 36 0) + 4) ((l2 * 6) + (l3 - 1))), lV (pl 9000000000000000000 (pl 9000000000000000000 (u.1 53 ((l2 * 7) + l3)) (tm 9000000000000000000 (u.1 48 (((l2 * 7) + l3) - 1)) (u.1 55 ((u.1 ((u.2 36 0) + 4) ((l2 * 6) + (l3 - 1))) - 100)))) (tm 9000000000000000000 (u.1 52 ((((l2 * 7) + (l3 - 1)) * 41) + l1)) (u.1 47 ((u.1 ((u.2 36 0) + 4) ((l2 * 6) + (l3 - 1))) - 100)))), .retAddr 0]) (pc := 148) (dec_at lsk_122 (k := 88) rfl) rfl (by decide) rfl ?_
      refine u_goto (pc := 151) (tgt := 27) (dec_at lsk_122 (k := 89) rfl) rfl ?_
      exact u_weak (sbK (sbK (sbK (sbK (sbD (sbD (sbK sb0))))))) h
/-- method 126 -/
def K_126 (d pc : Nat) (lv : ev_L) (st : List Value) (u : uS) (Q : Int → uS → Prop) : Prop := okU d 4 4 false (some .long) prog_11_method_5_code (qL Q) pc lv st u
theorem e_126 {d : Nat} {Q : Int → uS → Prop} {u : uS} {l1 : Nat} {l2 : Int} (hOl1 : isO l1 2) (h : (rI (u.1 36 17)) ∧ (if u.1 36 17 = 0 then (cV (d + 1) 104 [.ref 36, .ref l1, .ref (u.2 36 1), iV 40, iV 1] u (fun u3 => cV (d + 1) 114 [.ref 36, iV 0] u3 (fun u4 => ∀ u5 : uS, u5 = wr u4 57 0 (u4.1 47 0) → (K_126 (d + 1) 38 [.ref 36, .retAddr 0, iV l2, iV 1] [] u5 Q)))) else ((0 ≤ l2) ∧ ((l2 < 41) ∧ (Q (u.1 57 l2) u))))) : cL (d + 2) 126 [.ref 36, .ref l1, iV l2] u Q := by
  refine u_of me_126 (Nat.le_of_ble_eq_true rfl) ?_
  refine u_ld (v := .ref 36) (pc := 0) (dec_at lsk_126 (k := 0) rfl) rfl ?_
  refine u_gZ (z := 17) (pc := 1) (dec_at lsk_126 (k := 1) rfl) f_4_60 sx_36 rfl rfl ?_
  have g1 := h.1
  have h := h.2
  refine u_ifF (pc := 4) (tgt := 73) (dec_at lsk_126 (k := 2) rfl) rfl (c0_ne g1) (fun e2 => ?_) (fun e2 => ?_)
  · have h := ifT e2 h
    refine u_ld (v := .ref 36) (pc := 7) (dec_at lsk_126 (k := 3) rfl) rfl ?_
    refine u_ld (v := .ref l1) (pc := 8) (dec_at lsk_126 (k := 4) rfl) rfl ?_
    refine u_ld (v := .ref 36) (pc := 9) (dec_at lsk_126 (k := 5) rfl) rfl ?_
    refine u_gR (z := 1) (pc := 10) (dec_at lsk_126 (k := 6) rfl) f_4_18 sx_36 rfl rfl ?_
    refine u_c (x := 40) (pc := 13) (dec_at lsk_126 (k := 7) rfl) rfl (by decide) ?_
    refine u_ld (v := iV 1) (pc := 15) (dec_at lsk_126 (k := 8) rfl) rfl ?_
    refine u_cvV (As := [.ref l1, .ref (u.2 36 1), iV 40, iV 1]) (rb := 36) (st2 := []) (pc := 16) (dec_at lsk_126 (k := 9) rfl) m_4_63 (Or.inl rfl) rfl (Nat.le_of_ble_eq_true rfl) sx_36 me_104 rfl h (fun u3 h => ?_)
    refine u_ld (v := .ref 36) (pc := 19) (dec_at lsk_126 (k := 10) rfl) rfl ?_
    refine u_ld (v := iV 0) (pc := 20) (dec_at lsk_126 (k := 11) rfl) rfl ?_
    refine u_cvV (As := [iV 0]) (rb := 36) (st2 := []) (pc := 21) (dec_at lsk_126 (k := 12) rfl) m_4_71 (Or.inl rfl) rfl (Nat.le_of_ble_eq_true rfl) sx_36 me_114 rfl h (fun u4 h => ?_)
    refine u_ld (v := .ref 36) (pc := 24) (dec_at lsk_126 (k := 13) rfl) rfl ?_
    refine u_gS (o := 21) (p := 57) (pc := 25) (dec_at lsk_126 (k := 14) rfl) f_4_53 sx_36 rfl rfl ?_
    refine u_ld (v := iV 0) (pc := 28) (dec_at lsk_126 (k := 15) rfl) rfl ?_
    refine u_ld (v := .ref 36) (pc := 29) (dec_at lsk_126 (k := 16) rfl) rfl ?_
    refine u_gS (o := 11) (p := 47) (pc := 30) (dec_at lsk_126 (k := 17) rfl) f_4_22 sx_36 rfl rfl ?_
    refine u_ld (v := iV 0) (pc := 33) (dec_at lsk_126 (k := 18) rfl) rfl ?_
    refine u_lald (pc := 34) (dec_at lsk_126 (k := 19) rfl) sx_47 (by decide) (by decide) ?_
    refine u_last (pc := 35) (dec_at lsk_126 (k := 20) rfl) sx_57 (by decide) (by decide) (fun u5 e6 => ?_)
    have h := h u5 e6
    refine u_ld (v := iV 1) (pc := 36) (dec_at lsk_126 (k := 21) rfl) rfl ?_
    refine u_sto (lv' := [.ref 36, .ref l1, iV l2, iV 1]) (pc := 37) (dec_at lsk_126 (k := 22) rfl) rfl ?_
    exact u_weak (sbK (sbD (sbK (sbK sb0)))) h
  · have h := ifF e2 h
    refine u_ld (v := .ref 36) (pc := 73) (dec_at lsk_126 (k := 43) rfl) rfl ?_
    refine u_gS (o := 21) (p := 57) (pc := 74) (dec_at lsk_126 (k := 44) rfl) f_4_53 sx_36 rfl rfl ?_
    refine u_ld (v := iV l2) (pc := 77) (dec_at lsk_126 (k := 45) rfl) rfl ?_
    have g7 := h.1
    have h := h.2
    have g8 := h.1
    have h := h.2
    refine u_lald (pc := 78) (dec_at lsk_126 (k := 46) rfl) sx_57 g7 g8 ?_
    exact u_rL (pc := 79) (dec_at lsk_126 (k := 47) rfl) rfl h
theorem k_126_38 {d : Nat} {Q : Int → uS → Prop} {u : uS} {l2 l3 : Int} (h : (rI l3) ∧ (if 40 < l3 then (∀ u3 : uS, u3 = wr u 36 17 1 → ((0 ≤ l2) ∧ ((l2 < 41) ∧ (Q (u3.1 57 l2) u3)))) else ((rI (u.1 36 3)) ∧ (if u.1 36 3 = 0 then ((0 ≤ (((((0 * 41) + 0) - 0) * 41) + l3) - 0) ∧ (((((((0 * 41) + 0) - 0) * 41) + l3) - 0 < 16810) ∧ ((0 ≤ l3) ∧ ((l3 < 41) ∧ (∀ u13 : uS, u13 = wr u 57 l3 (u.1 51 ((((((0 * 41) + 0) - 0) * 41) + l3) - 0)) → (K_126 (d + 1) 38 [.ref 36, .retAddr 0, iV l2, iV (l3 + 1)] [] u13 Q)))))) else ((0 ≤ (((((0 * 41) + 0) - 0) * 41) + l3) - 0) ∧ (((((((0 * 41) + 0) - 0) * 41) + l3) - 0 < 16810) ∧ ((0 ≤ l3) ∧ ((l3 < 41) ∧ (∀ u19 : uS, u19 = wr u 57 l3 (u.1 51 ((((((0 * 41) + 0) - 0) * 41) + l3) - 0)) → (K_126 (d + 1) 38 [.ref 36, .retAddr 0, iV l2, iV (l3 + 1)] [] u19 Q)))))))))) : K_126 (d + 1) 38 [.ref 36, .retAddr 0, iV l2, iV l3] [] u Q := by
  unfold K_126
  refine u_ld (v := iV l3) (pc := 38) (dec_at lsk_126 (k := 23) rfl) rfl ?_
  refine u_c (x := 40) (pc := 39) (dec_at lsk_126 (k := 24) rfl) rfl (by decide) ?_
  have g1 := h.1
  have h := h.2
  refine u_icT (pc := 41) (tgt := 68) (dec_at lsk_126 (k := 25) rfl) rfl (ci_gt g1 (by decide)) (fun e2 => ?_) (fun e2 => ?_)
  · have h := ifT e2 h
    refine u_ld (v := .ref 36) (pc := 68) (dec_at lsk_126 (k := 40) rfl) rfl ?_
    refine u_ld (v := iV 1) (pc := 69) (dec_at lsk_126 (k := 41) rfl) rfl ?_
    refine u_pZ (z := 17) (pc := 70) (dec_at lsk_126 (k := 42) rfl) f_4_60 sx_36 rfl rfl rfl rfl (by decide) (fun u3 e4 => ?_)
    have h := h u3 e4
    refine u_ld (v := .ref 36) (pc := 73) (dec_at lsk_126 (k := 43) rfl) rfl ?_
    refine u_gS (o := 21) (p := 57) (pc := 74) (dec_at lsk_126 (k := 44) rfl) f_4_53 sx_36 rfl rfl ?_
    refine u_ld (v := iV l2) (pc := 77) (dec_at lsk_126 (k := 45) rfl) rfl ?_
    have g5 := h.1
    have h := h.2
    have g6 := h.1
    have h := h.2
    refine u_lald (pc := 78) (dec_at lsk_126 (k := 46) rfl) sx_57 g5 g6 ?_
    exact u_rL (pc := 79) (dec_at lsk_126 (k := 47) rfl) rfl h
  · have h := ifF e2 h
    refine u_ld (v := .ref 36) (pc := 44) (dec_at lsk_126 (k := 26) rfl) rfl ?_
    refine u_gS (o := 21) (p := 57) (pc := 45) (dec_at lsk_126 (k := 27) rfl) f_4_53 sx_36 rfl rfl ?_
    refine u_ld (v := iV l3) (pc := 48) (dec_at lsk_126 (k := 28) rfl) rfl ?_
    refine u_ld (v := .ref 36) (pc := 49) (dec_at lsk_126 (k := 29) rfl) rfl ?_
    refine u_gS (o := 15) (p := 51) (pc := 50) (dec_at lsk_126 (k := 30) rfl) f_4_35 sx_36 rfl rfl ?_
    refine u_ld (v := .ref 36) (pc := 53) (dec_at lsk_126 (k := 31) rfl) rfl ?_
    refine u_ld (v := iV 0) (pc := 54) (dec_at lsk_126 (k := 32) rfl) rfl ?_
    refine u_ld (v := iV 0) (pc := 55) (dec_at lsk_126 (k := 33) rfl) rfl ?_
    refine u_ld (v := iV l3) (pc := 56) (dec_at lsk_126 (k := 34) rfl) rfl ?_
    refine u_cvI (As := [iV 0, iV 0, iV l3]) (rb := 36) (st2 := [.ref 51, iV l3, .ref 57]) (pc := 57) (dec_at lsk_126 (k := 35) rfl) m_4_78 (Or.inl rfl) rfl (Nat.le_of_ble_eq_true rfl) sx_36 me_118 rfl ?_ (fun _ _ h_ => h_)
    refine u_of me_118 (Nat.le_of_ble_eq_true rfl) ?_
    refine u_ld (v := .ref 36) (pc := 0) (dec_at lsk_118 (k := 0) rfl) rfl ?_
    refine u_gZ (z := 3) (pc := 1) (dec_at lsk_118 (k := 1) rfl) f_4_82 sx_36 rfl rfl ?_
    have g7 := h.1
    have h := h.2
    refine u_ifT (pc := 4) (tgt := 11) (dec_at lsk_118 (k := 2) rfl) rfl (c0_eq g7) (fun e8 => ?_) (fun e8 => ?_)
    · have h := ifT e8 h
      refine u_ld (v := iV 0) (pc := 11) (dec_at lsk_118 (k := 5) rfl) rfl ?_
      refine u_sto (lv' := [.ref 36, iV 0, iV 0, iV l3, iV 0]) (pc := 12) (dec_at lsk_118 (k := 6) rfl) rfl ?_
      refine u_ld (v := iV 0) (pc := 14) (dec_at lsk_118 (k := 7) rfl) rfl ?_
      refine u_c (x := 41) (pc := 15) (dec_at lsk_118 (k := 8) rfl) rfl (by decide) ?_
      refine u_imul (pc := 17) (dec_at lsk_118 (k := 9) rfl) ?_
      refine u_ld (v := iV 0) (pc := 18) (dec_at lsk_118 (k := 10) rfl) rfl ?_
      refine u_iadd (pc := 19) (dec_at lsk_118 (k := 11) rfl) ?_
      refine u_ld (v := iV 0) (pc := 20) (dec_at lsk_118 (k := 12) rfl) rfl ?_
      refine u_isub (pc := 22) (dec_at lsk_118 (k := 13) rfl) ?_
      refine u_c (x := 41) (pc := 23) (dec_at lsk_118 (k := 14) rfl) rfl (by decide) ?_
      refine u_imul (pc := 25) (dec_at lsk_118 (k := 15) rfl) ?_
      refine u_ld (v := iV l3) (pc := 26) (dec_at lsk_118 (k := 16) rfl) rfl ?_
      refine u_iadd (pc := 27) (dec_at lsk_118 (k := 17) rfl) ?_
      refine u_ld (v := iV 0) (pc := 28) (dec_at lsk_118 (k := 18) rfl) rfl ?_
      refine u_isub (pc := 30) (dec_at lsk_118 (k := 19) rfl) ?_
      refine u_rI (pc := 31) (dec_at lsk_118 (k := 20) rfl) rfl ?_
      have g9 := h.1
      have h := h.2
      have g10 := h.1
      have h := h.2
      refine u_lald (pc := 60) (dec_at lsk_126 (k := 36) rfl) sx_51 g9 g10 ?_
      have g11 := h.1
      have h := h.2
      have g12 := h.1
      have h := h.2
      refine u_last (pc := 61) (dec_at lsk_126 (k := 37) rfl) sx_57 g11 g12 (fun u13 e14 => ?_)
      have h := h u13 e14
      refine u_inc (lv' := [.ref 36, .retAddr 0, iV l2, iV (l3 + 1)]) (pc := 62) (dec_at lsk_126 (k := 38) rfl) rfl (by decide) rfl ?_
      refine u_goto (pc := 65) (tgt := 38) (dec_at lsk_126 (k := 39) rfl) rfl ?_
      exact h
    · have h := ifF e8 h
      refine u_ld (v := iV 0) (pc := 7) (dec_at lsk_118 (k := 3) rfl) rfl ?_
      refine u_goto (pc := 8) (tgt := 12) (dec_at lsk_118 (k := 4) rfl) rfl ?_
      refine u_sto (lv' := [.ref 36, iV 0, iV 0, iV l3, iV 0]) (pc := 12) (dec_at lsk_118 (k := 6) rfl) rfl ?_
      refine u_ld (v := iV 0) (pc := 14) (dec_at lsk_118 (k := 7) rfl) rfl ?_
      refine u_c (x := 41) (pc := 15) (dec_at lsk_118 (k := 8) rfl) rfl (by decide) ?_
      refine u_imul (pc := 17) (dec_at lsk_118 (k := 9) rfl) ?_
      refine u_ld (v := iV 0) (pc := 18) (dec_at lsk_118 (k := 10) rfl) rfl ?_
      refine u_iadd (pc := 19) (dec_at lsk_118 (k := 11) rfl) ?_
      refine u_ld (v := iV 0) (pc := 20) (dec_at lsk_118 (k := 12) rfl) rfl ?_
      refine u_isub (pc := 22) (dec_at lsk_118 (k := 13) rfl) ?_
      refine u_c (x := 41) (pc := 23) (dec_at lsk_118 (k := 14) rfl) rfl (by decide) ?_
      refine u_imul (pc := 25) (dec_at lsk_118 (k := 15) rfl) ?_
      refine u_ld (v := iV l3) (pc := 26) (dec_at lsk_118 (k := 16) rfl) rfl ?_
      refine u_iadd (pc := 27) (dec_at lsk_118 (k := 17) rfl) ?_
      refine u_ld (v := iV 0) (pc := 28) (dec_at lsk_118 (k := 18) rfl) rfl ?_
      refine u_isub (pc := 30) (dec_at lsk_118 (k := 19) rfl) ?_
      refine u_rI (pc := 31) (dec_at lsk_118 (k := 20) rfl) rfl ?_
      have g15 := h.1
      have h := h.2
      have g16 := h.1
      have h := h.2
      refine u_lald (pc := 60) (dec_at lsk_126 (k := 36) rfl) sx_51 g15 g16 ?_
      have g17 := h.1
      have h := h.2
      have g18 := h.1
      have h := h.2
      refine u_last (pc := 61) (dec_at lsk_126 (k := 37) rfl) sx_57 g17 g18 (fun u19 e20 => ?_)
      have h := h u19 e20
      refine u_inc (lv' := [.ref 36, .retAddr 0, iV l2, iV (l3 + 1)]) (pc := 62) (dec_at lsk_126 (k := 38) rfl) rfl (by decide) rfl ?_
      refine u_goto (pc := 65) (tgt := 38) (dec_at lsk_126 (k := 39) rfl) rfl ?_
      exact h
