/-! Conditions (wip/tools/gen_k.py) -/
/-- method 276 -/
def K_276 (d pc : Nat) (lv : ev_L) (st : List Value) (u : uS) (Q : uS → Prop) : Prop := okU d 12 12 false none prog_14_method_81_code (qV Q) pc lv st u
theorem e_276 {d : Nat} {Q : uS → Prop} {u : uS} {l1 l2 : Int} (h : K_276 (d + 1) 2 [.ref 271, iV l1, iV l2, iV 0, .retAddr 0, .retAddr 0, .retAddr 0, .retAddr 0, .retAddr 0, .retAddr 0, .retAddr 0, .retAddr 0] [] u Q) : cV (d + 2) 276 [.ref 271, iV l1, iV l2] u Q := by
  refine u_of me_276 (Nat.le_of_ble_eq_true rfl) ?_
  refine u_ld (v := iV 0) (pc := 0) (dec_at lsk_276 (k := 0) rfl) rfl ?_
  refine u_sto (lv' := [.ref 271, iV l1, iV l2, iV 0, .retAddr 0, .retAddr 0, .retAddr 0, .retAddr 0, .retAddr 0, .retAddr 0, .retAddr 0, .retAddr 0]) (pc := 1) (dec_at lsk_276 (k := 1) rfl) rfl ?_
  exact h
theorem k_276_2 {d : Nat} {Q : uS → Prop} {u : uS} {l1 l2 l3 : Int} (h : (rI l3) ∧ (if l3 < 16000 then ((0 ≤ l3) ∧ (∀ u4 : uS, u4 = wr u 340 l3 0 → (∀ u6 : uS, u6 = wr u4 341 l3 0 → (K_276 (d + 1) 2 [.ref 271, iV l1, iV l2, iV (l3 + 1), .retAddr 0, .retAddr 0, .retAddr 0, .retAddr 0, .retAddr 0, .retAddr 0, .retAddr 0, .retAddr 0] [] u6 Q)))) else (∀ u8 : uS, u8 = wr u 339 0 l2 → (K_276 (d + 1) 41 [.ref 271, iV l1, .retAddr 0, iV (0 + 1), .retAddr 0, .retAddr 0, .retAddr 0, .retAddr 0, .retAddr 0, .retAddr 0, .retAddr 0, .retAddr 0] [] u8 Q)))) : K_276 (d + 1) 2 [.ref 271, iV l1, iV l2, iV l3, .retAddr 0, .retAddr 0, .retAddr 0, .retAddr 0, .retAddr 0, .retAddr 0, .retAddr 0, .retAddr 0] [] u Q := by
  unfold K_276
  refine u_ld (v := iV l3) (pc := 2) (dec_at lsk_276 (k := 2) rfl) rfl ?_
  refine u_c (x := 16000) (pc := 3) (dec_at lsk_276 (k := 3) rfl) rfl (by decide) ?_
  have g1 := h.1
  have h := h.2
  refine u_icF (pc := 6) (tgt := 29) (dec_at lsk_276 (k := 4) rfl) rfl (ci_ge g1 (by decide)) (fun e2 => ?_) (fun e2 => ?_)
  · have h := ifT e2 h
    refine u_ld (v := .ref 271) (pc := 9) (dec_at lsk_276 (k := 5) rfl) rfl ?_
    refine u_gS (o := 69) (p := 340) (pc := 10) (dec_at lsk_276 (k := 6) rfl) f_12_220 sx_271 rfl rfl ?_
    refine u_ld (v := iV l3) (pc := 13) (dec_at lsk_276 (k := 7) rfl) rfl ?_
    refine u_ld (v := iV 0) (pc := 14) (dec_at lsk_276 (k := 8) rfl) rfl ?_
    have g3 := h.1
    have h := h.2
    refine u_zast (pc := 15) (dec_at lsk_276 (k := 9) rfl) sx_340 g3 e2 (by decide) (fun u4 e5 => ?_)
    have h := h u4 e5
    refine u_ld (v := .ref 271) (pc := 16) (dec_at lsk_276 (k := 10) rfl) rfl ?_
    refine u_gS (o := 70) (p := 341) (pc := 17) (dec_at lsk_276 (k := 11) rfl) f_12_223 sx_271 rfl rfl ?_
    refine u_ld (v := iV l3) (pc := 20) (dec_at lsk_276 (k := 12) rfl) rfl ?_
    refine u_ld (v := iV 0) (pc := 21) (dec_at lsk_276 (k := 13) rfl) rfl ?_
    refine u_zast (pc := 22) (dec_at lsk_276 (k := 14) rfl) sx_341 g3 e2 (by decide) (fun u6 e7 => ?_)
    have h := h u6 e7
    refine u_inc (lv' := [.ref 271, iV l1, iV l2, iV (l3 + 1), .retAddr 0, .retAddr 0, .retAddr 0, .retAddr 0, .retAddr 0, .retAddr 0, .retAddr 0, .retAddr 0]) (pc := 23) (dec_at lsk_276 (k := 15) rfl) rfl (by decide) rfl ?_
    refine u_goto (pc := 26) (tgt := 2) (dec_at lsk_276 (k := 16) rfl) rfl ?_
    exact h
  · have h := ifF e2 h
    refine u_ld (v := iV 0) (pc := 29) (dec_at lsk_276 (k := 17) rfl) rfl ?_
    refine u_sto (lv' := [.ref 271, iV l1, iV l2, iV 0, .retAddr 0, .retAddr 0, .retAddr 0, .retAddr 0, .retAddr 0, .retAddr 0, .retAddr 0, .retAddr 0]) (pc := 30) (dec_at lsk_276 (k := 18) rfl) rfl ?_
    refine u_ld (v := .ref 271) (pc := 31) (dec_at lsk_276 (k := 19) rfl) rfl ?_
    refine u_gS (o := 68) (p := 339) (pc := 32) (dec_at lsk_276 (k := 20) rfl) f_12_217 sx_271 rfl rfl ?_
    refine u_ld (v := iV 0) (pc := 35) (dec_at lsk_276 (k := 21) rfl) rfl ?_
    refine u_ld (v := iV l2) (pc := 36) (dec_at lsk_276 (k := 22) rfl) rfl ?_
    refine u_iast (pc := 37) (dec_at lsk_276 (k := 23) rfl) sx_339 (by decide) (by decide) (fun u8 e9 => ?_)
    have h := h u8 e9
    refine u_inc (lv' := [.ref 271, iV l1, iV l2, iV (0 + 1), .retAddr 0, .retAddr 0, .retAddr 0, .retAddr 0, .retAddr 0, .retAddr 0, .retAddr 0, .retAddr 0]) (pc := 38) (dec_at lsk_276 (k := 24) rfl) rfl (by decide) rfl ?_
    exact u_weak (sbK (sbK (sbD (sbK (sbK (sbK (sbK (sbK (sbK (sbK (sbK (sbK sb0)))))))))))) h
theorem k_276_41 {d : Nat} {Q : uS → Prop} {u : uS} {l1 l3 : Int} (h : (rI l3) ∧ (if 0 < l3 then ((0 ≤ l3 - 1) ∧ ((l3 - 1 < 120000) ∧ ((0 ≤ u.1 339 (l3 - 1)) ∧ ((u.1 339 (l3 - 1) < 16000) ∧ ((rI (u.1 340 (u.1 339 (l3 - 1)))) ∧ (if u.1 340 (u.1 339 (l3 - 1)) = 0 then ((rI (u.1 341 (u.1 339 (l3 - 1)))) ∧ (if u.1 341 (u.1 339 (l3 - 1)) = 0 then (∀ u11 : uS, u11 = wr u 341 (u.1 339 (l3 - 1)) 1 → (cV (d + 1) 277 [.ref 271, iV l1, iV (u.1 339 (l3 - 1))] u11 (fun u13 => K_276 (d + 1) 123 [.ref 271, iV l1, .retAddr 0, iV l3, iV (u.1 339 (l3 - 1)), iV 1, iV (u13.1 331 (u.1 339 (l3 - 1))), lV 1, .retAddr 0, iV 0, .retAddr 0, .retAddr 0] [] u13 Q))) else (K_276 (d + 1) 123 [.ref 271, iV l1, .retAddr 0, iV l3, iV (u.1 339 (l3 - 1)), iV 0, iV (u.1 331 (u.1 339 (l3 - 1))), lV 1, .retAddr 0, iV 0, .retAddr 0, .retAddr 0] [] u Q))) else (K_276 (d + 1) 41 [.ref 271, iV l1, .retAddr 0, iV (l3 + (-1)), .retAddr 0, .retAddr 0, .retAddr 0, .retAddr 0, .retAddr 0, .retAddr 0, .retAddr 0, .retAddr 0] [] u Q))))))) else (Q u))) : K_276 (d + 1) 41 [.ref 271, iV l1, .retAddr 0, iV l3, .retAddr 0, .retAddr 0, .retAddr 0, .retAddr 0, .retAddr 0, .retAddr 0, .retAddr 0, .retAddr 0] [] u Q := by
  unfold K_276
  refine u_ld (v := iV l3) (pc := 41) (dec_at lsk_276 (k := 25) rfl) rfl ?_
  have g1 := h.1
  have h := h.2
  refine u_ifF (pc := 42) (tgt := 269) (dec_at lsk_276 (k := 26) rfl) rfl (c0_le g1) (fun e2 => ?_) (fun e2 => ?_)
  · have h := ifT e2 h
    refine u_ld (v := .ref 271) (pc := 45) (dec_at lsk_276 (k := 27) rfl) rfl ?_
    refine u_gS (o := 68) (p := 339) (pc := 46) (dec_at lsk_276 (k := 28) rfl) f_12_217 sx_271 rfl rfl ?_
    refine u_ld (v := iV l3) (pc := 49) (dec_at lsk_276 (k := 29) rfl) rfl ?_
    refine u_ld (v := iV 1) (pc := 50) (dec_at lsk_276 (k := 30) rfl) rfl ?_
    refine u_isub (pc := 51) (dec_at lsk_276 (k := 31) rfl) ?_
    have g3 := h.1
    have h := h.2
    have g4 := h.1
    have h := h.2
    refine u_iald (pc := 52) (dec_at lsk_276 (k := 32) rfl) sx_339 g3 g4 ?_
    refine u_sto (lv' := [.ref 271, iV l1, .retAddr 0, iV l3, iV (u.1 339 (l3 - 1)), .retAddr 0, .retAddr 0, .retAddr 0, .retAddr 0, .retAddr 0, .retAddr 0, .retAddr 0]) (pc := 53) (dec_at lsk_276 (k := 33) rfl) rfl ?_
    refine u_ld (v := .ref 271) (pc := 55) (dec_at lsk_276 (k := 34) rfl) rfl ?_
    refine u_gS (o := 69) (p := 340) (pc := 56) (dec_at lsk_276 (k := 35) rfl) f_12_220 sx_271 rfl rfl ?_
    refine u_ld (v := iV (u.1 339 (l3 - 1))) (pc := 59) (dec_at lsk_276 (k := 36) rfl) rfl ?_
    have g5 := h.1
    have h := h.2
    have g6 := h.1
    have h := h.2
    refine u_zald (pc := 61) (dec_at lsk_276 (k := 37) rfl) sx_340 g5 g6 ?_
    have g7 := h.1
    have h := h.2
    refine u_ifT (pc := 62) (tgt := 71) (dec_at lsk_276 (k := 38) rfl) rfl (c0_eq g7) (fun e8 => ?_) (fun e8 => ?_)
    · have h := ifT e8 h
      refine u_ld (v := .ref 271) (pc := 71) (dec_at lsk_276 (k := 41) rfl) rfl ?_
      refine u_gS (o := 70) (p := 341) (pc := 72) (dec_at lsk_276 (k := 42) rfl) f_12_223 sx_271 rfl rfl ?_
      refine u_ld (v := iV (u.1 339 (l3 - 1))) (pc := 75) (dec_at lsk_276 (k := 43) rfl) rfl ?_
      refine u_zald (pc := 77) (dec_at lsk_276 (k := 44) rfl) sx_341 g5 g6 ?_
      have g9 := h.1
      have h := h.2
      refine u_ifF (pc := 78) (tgt := 85) (dec_at lsk_276 (k := 45) rfl) rfl (c0_ne g9) (fun e10 => ?_) (fun e10 => ?_)
      · have h := ifT e10 h
        refine u_ld (v := iV 1) (pc := 81) (dec_at lsk_276 (k := 46) rfl) rfl ?_
        refine u_goto (pc := 82) (tgt := 86) (dec_at lsk_276 (k := 47) rfl) rfl ?_
        refine u_sto (lv' := [.ref 271, iV l1, .retAddr 0, iV l3, iV (u.1 339 (l3 - 1)), iV 1, .retAddr 0, .retAddr 0, .retAddr 0, .retAddr 0, .retAddr 0, .retAddr 0]) (pc := 86) (dec_at lsk_276 (k := 49) rfl) rfl ?_
        refine u_ld (v := iV 1) (pc := 88) (dec_at lsk_276 (k := 50) rfl) rfl ?_
        refine u_ifT (pc := 90) (tgt := 108) (dec_at lsk_276 (k := 51) rfl) rfl (c0_eq (by decide)) (fun e => absurd e (by decide)) (fun _ => ?_)
        refine u_ld (v := .ref 271) (pc := 93) (dec_at lsk_276 (k := 52) rfl) rfl ?_
        refine u_gS (o := 70) (p := 341) (pc := 94) (dec_at lsk_276 (k := 53) rfl) f_12_223 sx_271 rfl rfl ?_
        refine u_ld (v := iV (u.1 339 (l3 - 1))) (pc := 97) (dec_at lsk_276 (k := 54) rfl) rfl ?_
        refine u_ld (v := iV 1) (pc := 99) (dec_at lsk_276 (k := 55) rfl) rfl ?_
        refine u_zast (pc := 100) (dec_at lsk_276 (k := 56) rfl) sx_341 g5 g6 (by decide) (fun u11 e12 => ?_)
        have h := h u11 e12
        refine u_ld (v := .ref 271) (pc := 101) (dec_at lsk_276 (k := 57) rfl) rfl ?_
        refine u_ld (v := iV l1) (pc := 102) (dec_at lsk_276 (k := 58) rfl) rfl ?_
        refine u_ld (v := iV (u.1 339 (l3 - 1))) (pc := 103) (dec_at lsk_276 (k := 59) rfl) rfl ?_
        refine u_cvV (As := [iV l1, iV (u.1 339 (l3 - 1))]) (rb := 271) (st2 := []) (pc := 105) (dec_at lsk_276 (k := 60) rfl) m_12_523 (Or.inl rfl) rfl (Nat.le_of_ble_eq_true rfl) sx_271 me_277 rfl h (fun u13 h => ?_)
        refine u_ld (v := .ref 271) (pc := 108) (dec_at lsk_276 (k := 61) rfl) rfl ?_
        refine u_gS (o := 60) (p := 331) (pc := 109) (dec_at lsk_276 (k := 62) rfl) f_12_191 sx_271 rfl rfl ?_
        refine u_ld (v := iV (u.1 339 (l3 - 1))) (pc := 112) (dec_at lsk_276 (k := 63) rfl) rfl ?_
        refine u_iald (pc := 114) (dec_at lsk_276 (k := 64) rfl) sx_331 g5 g6 ?_
        refine u_sto (lv' := [.ref 271, iV l1, .retAddr 0, iV l3, iV (u.1 339 (l3 - 1)), iV 1, iV (u13.1 331 (u.1 339 (l3 - 1))), .retAddr 0, .retAddr 0, .retAddr 0, .retAddr 0, .retAddr 0]) (pc := 115) (dec_at lsk_276 (k := 65) rfl) rfl ?_
        refine u_cl (x := 1) (pc := 117) (dec_at lsk_276 (k := 66) rfl) rfl (by decide) ?_
        refine u_sto (lv' := [.ref 271, iV l1, .retAddr 0, iV l3, iV (u.1 339 (l3 - 1)), iV 1, iV (u13.1 331 (u.1 339 (l3 - 1))), lV 1, .retAddr 0, .retAddr 0, .retAddr 0, .retAddr 0]) (pc := 118) (dec_at lsk_276 (k := 67) rfl) rfl ?_
        refine u_ld (v := iV 0) (pc := 120) (dec_at lsk_276 (k := 68) rfl) rfl ?_
        refine u_sto (lv' := [.ref 271, iV l1, .retAddr 0, iV l3, iV (u.1 339 (l3 - 1)), iV 1, iV (u13.1 331 (u.1 339 (l3 - 1))), lV 1, .retAddr 0, iV 0, .retAddr 0, .retAddr 0]) (pc := 121) (dec_at lsk_276 (k := 69) rfl) rfl ?_
        exact h
      · have h := ifF e10 h
        refine u_ld (v := iV 0) (pc := 85) (dec_at lsk_276 (k := 48) rfl) rfl ?_
        refine u_sto (lv' := [.ref 271, iV l1, .retAddr 0, iV l3, iV (u.1 339 (l3 - 1)), iV 0, .retAddr 0, .retAddr 0, .retAddr 0, .retAddr 0, .retAddr 0, .retAddr 0]) (pc := 86) (dec_at lsk_276 (k := 49) rfl) rfl ?_
        refine u_ld (v := iV 0) (pc := 88) (dec_at lsk_276 (k := 50) rfl) rfl ?_
        refine u_ifT (pc := 90) (tgt := 108) (dec_at lsk_276 (k := 51) rfl) rfl (c0_eq (by decide)) (fun _ => ?_) (fun e => absurd e (by decide))
        refine u_ld (v := .ref 271) (pc := 108) (dec_at lsk_276 (k := 61) rfl) rfl ?_
        refine u_gS (o := 60) (p := 331) (pc := 109) (dec_at lsk_276 (k := 62) rfl) f_12_191 sx_271 rfl rfl ?_
        refine u_ld (v := iV (u.1 339 (l3 - 1))) (pc := 112) (dec_at lsk_276 (k := 63) rfl) rfl ?_
        refine u_iald (pc := 114) (dec_at lsk_276 (k := 64) rfl) sx_331 g5 g6 ?_
        refine u_sto (lv' := [.ref 271, iV l1, .retAddr 0, iV l3, iV (u.1 339 (l3 - 1)), iV 0, iV (u.1 331 (u.1 339 (l3 - 1))), .retAddr 0, .retAddr 0, .retAddr 0, .retAddr 0, .retAddr 0]) (pc := 115) (dec_at lsk_276 (k := 65) rfl) rfl ?_
        refine u_cl (x := 1) (pc := 117) (dec_at lsk_276 (k := 66) rfl) rfl (by decide) ?_
        refine u_sto (lv' := [.ref 271, iV l1, .retAddr 0, iV l3, iV (u.1 339 (l3 - 1)), iV 0, iV (u.1 331 (u.1 339 (l3 - 1))), lV 1, .retAddr 0, .retAddr 0, .retAddr 0, .retAddr 0]) (pc := 118) (dec_at lsk_276 (k := 67) rfl) rfl ?_
        refine u_ld (v := iV 0) (pc := 120) (dec_at lsk_276 (k := 68) rfl) rfl ?_
        refine u_sto (lv' := [.ref 271, iV l1, .retAddr 0, iV l3, iV (u.1 339 (l3 - 1)), iV 0, iV (u.1 331 (u.1 339 (l3 - 1))), lV 1, .retAddr 0, iV 0, .retAddr 0, .retAddr 0]) (pc := 121) (dec_at lsk_276 (k := 69) rfl) rfl ?_
        exact h
    · have h := ifF e8 h
      refine u_inc (lv' := [.ref 271, iV l1, .retAddr 0, iV (l3 + (-1)), iV (u.1 339 (l3 - 1)), .retAddr 0, .retAddr 0, .retAddr 0, .retAddr 0, .retAddr 0, .retAddr 0, .retAddr 0]) (pc := 65) (dec_at lsk_276 (k := 39) rfl) rfl (by decide) rfl ?_
      refine u_goto (pc := 68) (tgt := 41) (dec_at lsk_276 (k := 40) rfl) rfl ?_
      exact u_weak (sbK (sbK (sbK (sbK (sbD (sbK (sbK (sbK (sbK (sbK (sbK (sbK sb0)))))))))))) h
  · have h := ifF e2 h
    exact u_rV (pc := 269) (dec_at lsk_276 (k := 147) rfl) rfl h
theorem k_276_123 {d : Nat} {Q : uS → Prop} {u : uS} {l1 l3 l4 l5 l6 l7 l9 : Int} (h : (0 ≤ l6) ∧ ((l6 < 30) ∧ ((rI l9) ∧ ((rI (u.1 276 l6)) ∧ (if l9 < u.1 276 l6 then ((0 ≤ (6 * l6) + l9) ∧ (((6 * l6) + l9 < 180) ∧ ((rI (u.1 277 ((6 * l6) + l9))) ∧ (if u.1 277 ((6 * l6) + l9) < 100 then (K_276 (d + 1) 123 [.ref 271, iV l1, .retAddr 0, iV l3, iV l4, iV l5, iV l6, lV l7, .retAddr 0, iV (l9 + 1), .retAddr 0, .retAddr 0] [] u Q) else ((0 ≤ (7 * l4) + l9) ∧ (((7 * l4) + l9 < 112000) ∧ ((0 ≤ ((7 * l4) + l9) + 1) ∧ ((((7 * l4) + l9) + 1 < 112000) ∧ ((rI l5) ∧ (if l5 = 0 then ((0 ≤ (((10 * (u.1 332 ((7 * l4) + l9))) + ((u.1 277 ((6 * l6) + l9)) - 100)) * 40) + (u.1 332 (((7 * l4) + l9) + 1))) ∧ (((((10 * (u.1 332 ((7 * l4) + l9))) + ((u.1 277 ((6 * l6) + l9)) - 100)) * 40) + (u.1 332 (((7 * l4) + l9) + 1)) < 16000) ∧ ((cn 5000000000000000000 l7) ∧ ((cn 5000000000000000000 (u.1 333 ((((10 * (u.1 332 ((7 * l4) + l9))) + ((u.1 277 ((6 * l6) + l9)) - 100)) * 40) + (u.1 332 (((7 * l4) + l9) + 1))))) ∧ (K_276 (d + 1) 123 [.ref 271, iV l1, .retAddr 0, iV l3, iV l4, iV l5, iV l6, lV (pl 5000000000000000000 l7 (u.1 333 ((((10 * (u.1 332 ((7 * l4) + l9))) + ((u.1 277 ((6 * l6) + l9)) - 100)) * 40) + (u.1 332 (((7 * l4) + l9) + 1))))), .retAddr 0, iV (l9 + 1), .retAddr 0, .retAddr 0] [] u Q))))) else ((0 ≤ (((10 * (u.1 332 ((7 * l4) + l9))) + ((u.1 277 ((6 * l6) + l9)) - 100)) * 40) + (u.1 332 (((7 * l4) + l9) + 1))) ∧ (((((10 * (u.1 332 ((7 * l4) + l9))) + ((u.1 277 ((6 * l6) + l9)) - 100)) * 40) + (u.1 332 (((7 * l4) + l9) + 1)) < 16000) ∧ ((rI (u.1 340 ((((10 * (u.1 332 ((7 * l4) + l9))) + ((u.1 277 ((6 * l6) + l9)) - 100)) * 40) + (u.1 332 (((7 * l4) + l9) + 1))))) ∧ (if u.1 340 ((((10 * (u.1 332 ((7 * l4) + l9))) + ((u.1 277 ((6 * l6) + l9)) - 100)) * 40) + (u.1 332 (((7 * l4) + l9) + 1))) = 0 then ((0 ≤ l3) ∧ ((l3 < 120000) ∧ (∀ u26 : uS, u26 = wr u 339 l3 ((((10 * (u.1 332 ((7 * l4) + l9))) + ((u.1 277 ((6 * l6) + l9)) - 100)) * 40) + (u.1 332 (((7 * l4) + l9) + 1))) → ((cn 5000000000000000000 l7) ∧ ((cn 5000000000000000000 (u26.1 333 ((((10 * (u.1 332 ((7 * l4) + l9))) + ((u.1 277 ((6 * l6) + l9)) - 100)) * 40) + (u.1 332 (((7 * l4) + l9) + 1))))) ∧ (K_276 (d + 1) 123 [.ref 271, iV l1, .retAddr 0, iV (l3 + 1), iV l4, iV l5, iV l6, lV (pl 5000000000000000000 l7 (u26.1 333 ((((10 * (u.1 332 ((7 * l4) + l9))) + ((u.1 277 ((6 * l6) + l9)) - 100)) * 40) + (u.1 332 (((7 * l4) + l9) + 1))))), .retAddr 0, iV (l9 + 1), .retAddr 0, .retAddr 0] [] u26 Q)))))) else ((cn 5000000000000000000 l7) ∧ ((cn 5000000000000000000 (u.1 333 ((((10 * (u.1 332 ((7 * l4) + l9))) + ((u.1 277 ((6 * l6) + l9)) - 100)) * 40) + (u.1 332 (((7 * l4) + l9) + 1))))) ∧ (K_276 (d + 1) 123 [.ref 271, iV l1, .retAddr 0, iV l3, iV l4, iV l5, iV l6, lV (pl 5000000000000000000 l7 (u.1 333 ((((10 * (u.1 332 ((7 * l4) + l9))) + ((u.1 277 ((6 * l6) + l9)) - 100)) * 40) + (u.1 332 (((7 * l4) + l9) + 1))))), .retAddr 0, iV (l9 + 1), .retAddr 0, .retAddr 0] [] u Q))))))))))))))))) else ((rI l5) ∧ (if l5 = 0 then ((0 ≤ l4) ∧ ((l4 < 16000) ∧ (∀ u36 : uS, u36 = wr u 333 l4 l7 → (∀ u38 : uS, u38 = wr u36 340 l4 1 → (K_276 (d + 1) 41 [.ref 271, iV l1, .retAddr 0, iV (l3 + (-1)), .retAddr 0, .retAddr 0, .retAddr 0, .retAddr 0, .retAddr 0, .retAddr 0, .retAddr 0, .retAddr 0] [] u38 Q))))) else (K_276 (d + 1) 41 [.ref 271, iV l1, .retAddr 0, iV l3, .retAddr 0, .retAddr 0, .retAddr 0, .retAddr 0, .retAddr 0, .retAddr 0, .retAddr 0, .retAddr 0] [] u Q)))))))) : K_276 (d + 1) 123 [.ref 271, iV l1, .retAddr 0, iV l3, iV l4, iV l5, iV l6, lV l7, .retAddr 0, iV l9, .retAddr 0, .retAddr 0] [] u Q := by
  unfold K_276
  refine u_ld (v := iV l9) (pc := 123) (dec_at lsk_276 (k := 70) rfl) rfl ?_
  refine u_ld (v := .ref 271) (pc := 125) (dec_at lsk_276 (k := 71) rfl) rfl ?_
  refine u_gS (o := 5) (p := 276) (pc := 126) (dec_at lsk_276 (k := 72) rfl) f_12_22 sx_271 rfl rfl ?_
  refine u_ld (v := iV l6) (pc := 129) (dec_at lsk_276 (k := 73) rfl) rfl ?_
  have g1 := h.1
  have h := h.2
  have g2 := h.1
  have h := h.2
  refine u_iald (pc := 131) (dec_at lsk_276 (k := 74) rfl) sx_276 g1 g2 ?_
  have g3 := h.1
  have h := h.2
  have g4 := h.1
  have h := h.2
  refine u_icF (pc := 132) (tgt := 241) (dec_at lsk_276 (k := 75) rfl) rfl (ci_ge g3 g4) (fun e5 => ?_) (fun e5 => ?_)
  · have h := ifT e5 h
    refine u_ld (v := .ref 271) (pc := 135) (dec_at lsk_276 (k := 76) rfl) rfl ?_
    refine u_gS (o := 6) (p := 277) (pc := 136) (dec_at lsk_276 (k := 77) rfl) f_12_25 sx_271 rfl rfl ?_
    refine u_c (x := 6) (pc := 139) (dec_at lsk_276 (k := 78) rfl) rfl (by decide) ?_
    refine u_ld (v := iV l6) (pc := 141) (dec_at lsk_276 (k := 79) rfl) rfl ?_
    refine u_imul (pc := 143) (dec_at lsk_276 (k := 80) rfl) ?_
    refine u_ld (v := iV l9) (pc := 144) (dec_at lsk_276 (k := 81) rfl) rfl ?_
    refine u_iadd (pc := 146) (dec_at lsk_276 (k := 82) rfl) ?_
    have g6 := h.1
    have h := h.2
    have g7 := h.1
    have h := h.2
    refine u_iald (pc := 147) (dec_at lsk_276 (k := 83) rfl) sx_277 g6 g7 ?_
    refine u_sto (lv' := [.ref 271, iV l1, .retAddr 0, iV l3, iV l4, iV l5, iV l6, lV l7, .retAddr 0, iV l9, iV (u.1 277 ((6 * l6) + l9)), .retAddr 0]) (pc := 148) (dec_at lsk_276 (k := 84) rfl) rfl ?_
    refine u_ld (v := iV (u.1 277 ((6 * l6) + l9))) (pc := 150) (dec_at lsk_276 (k := 85) rfl) rfl ?_
    refine u_c (x := 100) (pc := 152) (dec_at lsk_276 (k := 86) rfl) rfl (by decide) ?_
    have g8 := h.1
    have h := h.2
    refine u_icT (pc := 154) (tgt := 235) (dec_at lsk_276 (k := 87) rfl) rfl (ci_lt g8 (by decide)) (fun e9 => ?_) (fun e9 => ?_)
    · have h := ifT e9 h
      refine u_inc (lv' := [.ref 271, iV l1, .retAddr 0, iV l3, iV l4, iV l5, iV l6, lV l7, .retAddr 0, iV (l9 + 1), iV (u.1 277 ((6 * l6) + l9)), .retAddr 0]) (pc := 235) (dec_at lsk_276 (k := 131) rfl) rfl (by decide) rfl ?_
      refine u_goto (pc := 238) (tgt := 123) (dec_at lsk_276 (k := 132) rfl) rfl ?_
      exact u_weak (sbK (sbK (sbK (sbK (sbK (sbK (sbK (sbK (sbK (sbK (sbD (sbK sb0)))))))))))) h
    · have h := ifF e9 h
      refine u_ld (v := .ref 271) (pc := 157) (dec_at lsk_276 (k := 88) rfl) rfl ?_
      refine u_gS (o := 61) (p := 332) (pc := 158) (dec_at lsk_276 (k := 89) rfl) f_12_195 sx_271 rfl rfl ?_
      refine u_c (x := 7) (pc := 161) (dec_at lsk_276 (k := 90) rfl) rfl (by decide) ?_
      refine u_ld (v := iV l4) (pc := 163) (dec_at lsk_276 (k := 91) rfl) rfl ?_
      refine u_imul (pc := 165) (dec_at lsk_276 (k := 92) rfl) ?_
      refine u_ld (v := iV l9) (pc := 166) (dec_at lsk_276 (k := 93) rfl) rfl ?_
      refine u_iadd (pc := 168) (dec_at lsk_276 (k := 94) rfl) ?_
      have g10 := h.1
      have h := h.2
      have g11 := h.1
      have h := h.2
      refine u_iald (pc := 169) (dec_at lsk_276 (k := 95) rfl) sx_332 g10 g11 ?_
      refine u_ld (v := iV (u.1 277 ((6 * l6) + l9))) (pc := 170) (dec_at lsk_276 (k := 96) rfl) rfl ?_
      refine u_c (x := 100) (pc := 172) (dec_at lsk_276 (k := 97) rfl) rfl (by decide) ?_
      refine u_isub (pc := 174) (dec_at lsk_276 (k := 98) rfl) ?_
      refine u_ld (v := .ref 271) (pc := 175) (dec_at lsk_276 (k := 99) rfl) rfl ?_
      refine u_gS (o := 61) (p := 332) (pc := 176) (dec_at lsk_276 (k := 100) rfl) f_12_195 sx_271 rfl rfl ?_
      refine u_c (x := 7) (pc := 179) (dec_at lsk_276 (k := 101) rfl) rfl (by decide) ?_
      refine u_ld (v := iV l4) (pc := 181) (dec_at lsk_276 (k := 102) rfl) rfl ?_
      refine u_imul (pc := 183) (dec_at lsk_276 (k := 103) rfl) ?_
      refine u_ld (v := iV l9) (pc := 184) (dec_at lsk_276 (k := 104) rfl) rfl ?_
      refine u_iadd (pc := 186) (dec_at lsk_276 (k := 105) rfl) ?_
      refine u_ld (v := iV 1) (pc := 187) (dec_at lsk_276 (k := 106) rfl) rfl ?_
      refine u_iadd (pc := 188) (dec_at lsk_276 (k := 107) rfl) ?_
      have g12 := h.1
      have h := h.2
      have g13 := h.1
      have h := h.2
      refine u_iald (pc := 189) (dec_at lsk_276 (k := 108) rfl) sx_332 g12 g13 ?_
      refine u_csI (As := [iV (u.1 332 ((7 * l4) + l9)), iV ((u.1 277 ((6 * l6) + l9)) - 100), iV (u.1 332 (((7 * l4) + l9) + 1))]) (st2 := []) (pc := 190) (dec_at lsk_276 (k := 109) rfl) m_12_494 (Or.inl rfl) rfl (Nat.le_of_ble_eq_true rfl) ?_ (fun _ _ h_ => h_)
      refine u_of me_274 (Nat.le_of_ble_eq_true rfl) ?_
      refine u_c (x := 10) (pc := 0) (dec_at lsk_274 (k := 0) rfl) rfl (by decide) ?_
      refine u_ld (v := iV (u.1 332 ((7 * l4) + l9))) (pc := 2) (dec_at lsk_274 (k := 1) rfl) rfl ?_
      refine u_imul (pc := 3) (dec_at lsk_274 (k := 2) rfl) ?_
      refine u_ld (v := iV ((u.1 277 ((6 * l6) + l9)) - 100)) (pc := 4) (dec_at lsk_274 (k := 3) rfl) rfl ?_
      refine u_iadd (pc := 5) (dec_at lsk_274 (k := 4) rfl) ?_
      refine u_c (x := 40) (pc := 6) (dec_at lsk_274 (k := 5) rfl) rfl (by decide) ?_
      refine u_imul (pc := 8) (dec_at lsk_274 (k := 6) rfl) ?_
      refine u_ld (v := iV (u.1 332 (((7 * l4) + l9) + 1))) (pc := 9) (dec_at lsk_274 (k := 7) rfl) rfl ?_
      refine u_iadd (pc := 10) (dec_at lsk_274 (k := 8) rfl) ?_
      refine u_rI (pc := 11) (dec_at lsk_274 (k := 9) rfl) rfl ?_
      refine u_sto (lv' := [.ref 271, iV l1, .retAddr 0, iV l3, iV l4, iV l5, iV l6, lV l7, .retAddr 0, iV l9, iV (u.1 277 ((6 * l6) + l9)), iV ((((10 * (u.1 332 ((7 * l4) + l9))) + ((u.1 277 ((6 * l6) + l9)) - 100)) * 40) + (u.1 332 (((7 * l4) + l9) + 1)))]) (pc := 193) (dec_at lsk_276 (k := 110) rfl) rfl ?_
      refine u_ld (v := iV l5) (pc := 195) (dec_at lsk_276 (k := 111) rfl) rfl ?_
      have g14 := h.1
      have h := h.2
      refine u_ifT (pc := 197) (tgt := 221) (dec_at lsk_276 (k := 112) rfl) rfl (c0_eq g14) (fun e15 => ?_) (fun e15 => ?_)
      · have h := ifT e15 h
        refine u_ld (v := lV l7) (pc := 221) (dec_at lsk_276 (k := 124) rfl) rfl ?_
        refine u_ld (v := .ref 271) (pc := 223) (dec_at lsk_276 (k := 125) rfl) rfl ?_
        refine u_gS (o := 62) (p := 333) (pc := 224) (dec_at lsk_276 (k := 126) rfl) f_12_198 sx_271 rfl rfl ?_
        refine u_ld (v := iV ((((10 * (u.1 332 ((7 * l4) + l9))) + ((u.1 277 ((6 * l6) + l9)) - 100)) * 40) + (u.1 332 (((7 * l4) + l9) + 1)))) (pc := 227) (dec_at lsk_276 (k := 127) rfl) rfl ?_
        have g16 := h.1
        have h := h.2
        have g17 := h.1
        have h := h.2
        refine u_lald (pc := 229) (dec_at lsk_276 (k := 128) rfl) sx_333 g16 g17 ?_
        have g18 := h.1
        have h := h.2
        have g19 := h.1
        have h := h.2
        refine u_csL (As := [lV l7, lV (u.1 333 ((((10 * (u.1 332 ((7 * l4) + l9))) + ((u.1 277 ((6 * l6) + l9)) - 100)) * 40) + (u.1 332 (((7 * l4) + l9) + 1))))]) (st2 := []) (pc := 230) (dec_at lsk_276 (k := 129) rfl) m_12_323 (Or.inl rfl) rfl (Nat.le_of_ble_eq_true rfl) (p_217 g18 g19) (fun r_ u_ h_ => ?_)
        rw [h_.1, h_.2]
        refine u_sto (lv' := [.ref 271, iV l1, .retAddr 0, iV l3, iV l4, iV l5, iV l6, lV (pl 5000000000000000000 l7 (u.1 333 ((((10 * (u.1 332 ((7 * l4) + l9))) + ((u.1 277 ((6 * l6) + l9)) - 100)) * 40) + (u.1 332 (((7 * l4) + l9) + 1))))), .retAddr 0, iV l9, iV (u.1 277 ((6 * l6) + l9)), iV ((((10 * (u.1 332 ((7 * l4) + l9))) + ((u.1 277 ((6 * l6) + l9)) - 100)) * 40) + (u.1 332 (((7 * l4) + l9) + 1)))]) (pc := 233) (dec_at lsk_276 (k := 130) rfl) rfl ?_
        refine u_inc (lv' := [.ref 271, iV l1, .retAddr 0, iV l3, iV l4, iV l5, iV l6, lV (pl 5000000000000000000 l7 (u.1 333 ((((10 * (u.1 332 ((7 * l4) + l9))) + ((u.1 277 ((6 * l6) + l9)) - 100)) * 40) + (u.1 332 (((7 * l4) + l9) + 1))))), .retAddr 0, iV (l9 + 1), iV (u.1 277 ((6 * l6) + l9)), iV ((((10 * (u.1 332 ((7 * l4) + l9))) + ((u.1 277 ((6 * l6) + l9)) - 100)) * 40) + (u.1 332 (((7 * l4) + l9) + 1)))]) (pc := 235) (dec_at lsk_276 (k := 131) rfl) rfl (by decide) rfl ?_
        refine u_goto (pc := 238) (tgt := 123) (dec_at lsk_276 (k := 132) rfl) rfl ?_
        exact u_weak (sbK (sbK (sbK (sbK (sbK (sbK (sbK (sbK (sbK (sbK (sbD (sbD sb0)))))))))))) h
      · have h := ifF e15 h
        refine u_ld (v := .ref 271) (pc := 200) (dec_at lsk_276 (k := 113) rfl) rfl ?_
        refine u_gS (o := 69) (p := 340) (pc := 201) (dec_at lsk_276 (k := 114) rfl) f_12_220 sx_271 rfl rfl ?_
        refine u_ld (v := iV ((((10 * (u.1 332 ((7 * l4) + l9))) + ((u.1 277 ((6 * l6) + l9)) - 100)) * 40) + (u.1 332 (((7 * l4) + l9) + 1)))) (pc := 204) (dec_at lsk_276 (k := 115) rfl) rfl ?_
        have g20 := h.1
        have h := h.2
        have g21 := h.1
        have h := h.2
        refine u_zald (pc := 206) (dec_at lsk_276 (k := 116) rfl) sx_340 g20 g21 ?_
        have g22 := h.1
        have h := h.2
        refine u_ifF (pc := 207) (tgt := 221) (dec_at lsk_276 (k := 117) rfl) rfl (c0_ne g22) (fun e23 => ?_) (fun e23 => ?_)
        · have h := ifT e23 h
          refine u_ld (v := .ref 271) (pc := 210) (dec_at lsk_276 (k := 118) rfl) rfl ?_
          refine u_gS (o := 68) (p := 339) (pc := 211) (dec_at lsk_276 (k := 119) rfl) f_12_217 sx_271 rfl rfl ?_
          refine u_ld (v := iV l3) (pc := 214) (dec_at lsk_276 (k := 120) rfl) rfl ?_
          refine u_ld (v := iV ((((10 * (u.1 332 ((7 * l4) + l9))) + ((u.1 277 ((6 * l6) + l9)) - 100)) * 40) + (u.1 332 (((7 * l4) + l9) + 1)))) (pc := 215) (dec_at lsk_276 (k := 121) rfl) rfl ?_
          have g24 := h.1
          have h := h.2
          have g25 := h.1
          have h := h.2
          refine u_iast (pc := 217) (dec_at lsk_276 (k := 122) rfl) sx_339 g24 g25 (fun u26 e27 => ?_)
          have h := h u26 e27
          refine u_inc (lv' := [.ref 271, iV l1, .retAddr 0, iV (l3 + 1), iV l4, iV l5, iV l6, lV l7, .retAddr 0, iV l9, iV (u.1 277 ((6 * l6) + l9)), iV ((((10 * (u.1 332 ((7 * l4) + l9))) + ((u.1 277 ((6 * l6) + l9)) - 100)) * 40) + (u.1 332 (((7 * l4) + l9) + 1)))]) (pc := 218) (dec_at lsk_276 (k := 123) rfl) rfl (by decide) rfl ?_
          refine u_ld (v := lV l7) (pc := 221) (dec_at lsk_276 (k := 124) rfl) rfl ?_
          refine u_ld (v := .ref 271) (pc := 223) (dec_at lsk_276 (k := 125) rfl) rfl ?_
          refine u_gS (o := 62) (p := 333) (pc := 224) (dec_at lsk_276 (k := 126) rfl) f_12_198 sx_271 rfl rfl ?_
          refine u_ld (v := iV ((((10 * (u.1 332 ((7 * l4) + l9))) + ((u.1 277 ((6 * l6) + l9)) - 100)) * 40) + (u.1 332 (((7 * l4) + l9) + 1)))) (pc := 227) (dec_at lsk_276 (k := 127) rfl) rfl ?_
          refine u_lald (pc := 229) (dec_at lsk_276 (k := 128) rfl) sx_333 g20 g21 ?_
          have g28 := h.1
          have h := h.2
          have g29 := h.1
          have h := h.2
          refine u_csL (As := [lV l7, lV (u26.1 333 ((((10 * (u.1 332 ((7 * l4) + l9))) + ((u.1 277 ((6 * l6) + l9)) - 100)) * 40) + (u.1 332 (((7 * l4) + l9) + 1))))]) (st2 := []) (pc := 230) (dec_at lsk_276 (k := 129) rfl) m_12_323 (Or.inl rfl) rfl (Nat.le_of_ble_eq_true rfl) (p_217 g28 g29) (fun r_ u_ h_ => ?_)
          rw [h_.1, h_.2]
          refine u_sto (lv' := [.ref 271, iV l1, .retAddr 0, iV (l3 + 1), iV l4, iV l5, iV l6, lV (pl 5000000000000000000 l7 (u26.1 333 ((((10 * (u.1 332 ((7 * l4) + l9))) + ((u.1 277 ((6 * l6) + l9)) - 100)) * 40) + (u.1 332 (((7 * l4) + l9) + 1))))), .retAddr 0, iV l9, iV (u.1 277 ((6 * l6) + l9)), iV ((((10 * (u.1 332 ((7 * l4) + l9))) + ((u.1 277 ((6 * l6) + l9)) - 100)) * 40) + (u.1 332 (((7 * l4) + l9) + 1)))]) (pc := 233) (dec_at lsk_276 (k := 130) rfl) rfl ?_
          refine u_inc (lv' := [.ref 271, iV l1, .retAddr 0, iV (l3 + 1), iV l4, iV l5, iV l6, lV (pl 5000000000000000000 l7 (u26.1 333 ((((10 * (u.1 332 ((7 * l4) + l9))) + ((u.1 277 ((6 * l6) + l9)) - 100)) * 40) + (u.1 332 (((7 * l4) + l9) + 1))))), .retAddr 0, iV (l9 + 1), iV (u.1 277 ((6 * l6) + l9)), iV ((((10 * (u.1 332 ((7 * l4) + l9))) + ((u.1 277 ((6 * l6) + l9)) - 100)) * 40) + (u.1 332 (((7 * l4) + l9) + 1)))]) (pc := 235) (dec_at lsk_276 (k := 131) rfl) rfl (by decide) rfl ?_
          refine u_goto (pc := 238) (tgt := 123) (dec_at lsk_276 (k := 132) rfl) rfl ?_
          exact u_weak (sbK (sbK (sbK (sbK (sbK (sbK (sbK (sbK (sbK (sbK (sbD (sbD sb0)))))))))))) h
        · have h := ifF e23 h
          refine u_ld (v := lV l7) (pc := 221) (dec_at lsk_276 (k := 124) rfl) rfl ?_
          refine u_ld (v := .ref 271) (pc := 223) (dec_at lsk_276 (k := 125) rfl) rfl ?_
          refine u_gS (o := 62) (p := 333) (pc := 224) (dec_at lsk_276 (k := 126) rfl) f_12_198 sx_271 rfl rfl ?_
          refine u_ld (v := iV ((((10 * (u.1 332 ((7 * l4) + l9))) + ((u.1 277 ((6 * l6) + l9)) - 100)) * 40) + (u.1 332 (((7 * l4) + l9) + 1)))) (pc := 227) (dec_at lsk_276 (k := 127) rfl) rfl ?_
          refine u_lald (pc := 229) (dec_at lsk_276 (k := 128) rfl) sx_333 g20 g21 ?_
          have g30 := h.1
          have h := h.2
          have g31 := h.1
          have h := h.2
          refine u_csL (As := [lV l7, lV (u.1 333 ((((10 * (u.1 332 ((7 * l4) + l9))) + ((u.1 277 ((6 * l6) + l9)) - 100)) * 40) + (u.1 332 (((7 * l4) + l9) + 1))))]) (st2 := []) (pc := 230) (dec_at lsk_276 (k := 129) rfl) m_12_323 (Or.inl rfl) rfl (Nat.le_of_ble_eq_true rfl) (p_217 g30 g31) (fun r_ u_ h_ => ?_)
          rw [h_.1, h_.2]
          refine u_sto (lv' := [.ref 271, iV l1, .retAddr 0, iV l3, iV l4, iV l5, iV l6, lV (pl 5000000000000000000 l7 (u.1 333 ((((10 * (u.1 332 ((7 * l4) + l9))) + ((u.1 277 ((6 * l6) + l9)) - 100)) * 40) + (u.1 332 (((7 * l4) + l9) + 1))))), .retAddr 0, iV l9, iV (u.1 277 ((6 * l6) + l9)), iV ((((10 * (u.1 332 ((7 * l4) + l9))) + ((u.1 277 ((6 * l6) + l9)) - 100)) * 40) + (u.1 332 (((7 * l4) + l9) + 1)))]) (pc := 233) (dec_at lsk_276 (k := 130) rfl) rfl ?_
          refine u_inc (lv' := [.ref 271, iV l1, .retAddr 0, iV l3, iV l4, iV l5, iV l6, lV (pl 5000000000000000000 l7 (u.1 333 ((((10 * (u.1 332 ((7 * l4) + l9))) + ((u.1 277 ((6 * l6) + l9)) - 100)) * 40) + (u.1 332 (((7 * l4) + l9) + 1))))), .retAddr 0, iV (l9 + 1), iV (u.1 277 ((6 * l6) + l9)), iV ((((10 * (u.1 332 ((7 * l4) + l9))) + ((u.1 277 ((6 * l6) + l9)) - 100)) * 40) + (u.1 332 (((7 * l4) + l9) + 1)))]) (pc := 235) (dec_at lsk_276 (k := 131) rfl) rfl (by decide) rfl ?_
          refine u_goto (pc := 238) (tgt := 123) (dec_at lsk_276 (k := 132) rfl) rfl ?_
          exact u_weak (sbK (sbK (sbK (sbK (sbK (sbK (sbK (sbK (sbK (sbK (sbD (sbD sb0)))))))))))) h
  · have h := ifF e5 h
    refine u_ld (v := iV l5) (pc := 241) (dec_at lsk_276 (k := 133) rfl) rfl ?_
    have g32 := h.1
    have h := h.2
    refine u_ifF (pc := 243) (tgt := 266) (dec_at lsk_276 (k := 134) rfl) rfl (c0_ne g32) (fun e33 => ?_) (fun e33 => ?_)
    · have h := ifT e33 h
      refine u_ld (v := .ref 271) (pc := 246) (dec_at lsk_276 (k := 135) rfl) rfl ?_
      refine u_gS (o := 62) (p := 333) (pc := 247) (dec_at lsk_276 (k := 136) rfl) f_12_198 sx_271 rfl rfl ?_
      refine u_ld (v := iV l4) (pc := 250) (dec_at lsk_276 (k := 137) rfl) rfl ?_
      refine u_ld (v := lV l7) (pc := 252) (dec_at lsk_276 (k := 138) rfl) rfl ?_
      have g34 := h.1
      have h := h.2
      have g35 := h.1
      have h := h.2
      refine u_last (pc := 254) (dec_at lsk_276 (k := 139) rfl) sx_333 g34 g35 (fun u36 e37 => ?_)
      have h := h u36 e37
      refine u_ld (v := .ref 271) (pc := 255) (dec_at lsk_276 (k := 140) rfl) rfl ?_
      refine u_gS (o := 69) (p := 340) (pc := 256) (dec_at lsk_276 (k := 141) rfl) f_12_220 sx_271 rfl rfl ?_
      refine u_ld (v := iV l4) (pc := 259) (dec_at lsk_276 (k := 142) rfl) rfl ?_
      refine u_ld (v := iV 1) (pc := 261) (dec_at lsk_276 (k := 143) rfl) rfl ?_
      refine u_zast (pc := 262) (dec_at lsk_276 (k := 144) rfl) sx_340 g34 g35 (by decide) (fun u38 e39 => ?_)
      have h := h u38 e39
      refine u_inc (lv' := [.ref 271, iV l1, .retAddr 0, iV (l3 + (-1)), iV l4, iV l5, iV l6, lV l7, .retAddr 0, iV l9, .retAddr 0, .retAddr 0]) (pc := 263) (dec_at lsk_276 (k := 145) rfl) rfl (by decide) rfl ?_
      refine u_goto (pc := 266) (tgt := 41) (dec_at lsk_276 (k := 146) rfl) rfl ?_
      exact u_weak (sbK (sbK (sbK (sbK (sbD (sbD (sbD (sbD (sbK (sbD (sbK (sbK sb0)))))))))))) h
    · have h := ifF e33 h
      refine u_goto (pc := 266) (tgt := 41) (dec_at lsk_276 (k := 146) rfl) rfl ?_
      exact u_weak (sbK (sbK (sbK (sbK (sbD (sbD (sbD (sbD (sbK (sbD (sbK (sbK sb0)))))))))))) h
/-- method 277 -/
def K_277 (d pc : Nat) (lv : ev_L) (st : List Value) (u : uS) (Q : uS → Prop) : Prop := okU d 12 13 false none prog_14_method_79_code (qV Q) pc lv st u
theorem e_277 {d : Nat} {Q : uS → Prop} {u : uS} {l1 l2 : Int} (h : (rI l2) ∧ ((rI (l2.tdiv 40)) ∧ (K_277 (d + 1) 26 [.ref 271, iV l1, iV l2, iV (l2.tmod 40), iV ((l2.tdiv 40).tmod 10), iV ((l2.tdiv 40).tdiv 10), iV 0, .retAddr 0, .retAddr 0, .retAddr 0, .retAddr 0, .retAddr 0, .retAddr 0] [] u Q))) : cV (d + 2) 277 [.ref 271, iV l1, iV l2] u Q := by
  refine u_of me_277 (Nat.le_of_ble_eq_true rfl) ?_
  refine u_ld (v := iV l2) (pc := 0) (dec_at lsk_277 (k := 0) rfl) rfl ?_
  refine u_c (x := 40) (pc := 1) (dec_at lsk_277 (k := 1) rfl) rfl (by decide) ?_
  have g1 := h.1
  have h := h.2
  refine u_irem (pc := 3) (dec_at lsk_277 (k := 2) rfl) g1 (by decide) (by decide) ?_
  refine u_sto (lv' := [.ref 271, iV l1, iV l2, iV (l2.tmod 40), .retAddr 0, .retAddr 0, .retAddr 0, .retAddr 0, .retAddr 0, .retAddr 0, .retAddr 0, .retAddr 0, .retAddr 0]) (pc := 4) (dec_at lsk_277 (k := 3) rfl) rfl ?_
  refine u_ld (v := iV l2) (pc := 5) (dec_at lsk_277 (k := 4) rfl) rfl ?_
  refine u_c (x := 40) (pc := 6) (dec_at lsk_277 (k := 5) rfl) rfl (by decide) ?_
  refine u_idiv (pc := 8) (dec_at lsk_277 (k := 6) rfl) g1 (by decide) (by decide) ?_
  refine u_c (x := 10) (pc := 9) (dec_at lsk_277 (k := 7) rfl) rfl (by decide) ?_
  have g2 := h.1
  have h := h.2
  refine u_irem (pc := 11) (dec_at lsk_277 (k := 8) rfl) g2 (by decide) (by decide) ?_
  refine u_sto (lv' := [.ref 271, iV l1, iV l2, iV (l2.tmod 40), iV ((l2.tdiv 40).tmod 10), .retAddr 0, .retAddr 0, .retAddr 0, .retAddr 0, .retAddr 0, .retAddr 0, .retAddr 0, .retAddr 0]) (pc := 12) (dec_at lsk_277 (k := 9) rfl) rfl ?_
  refine u_ld (v := iV l2) (pc := 14) (dec_at lsk_277 (k := 10) rfl) rfl ?_
  refine u_c (x := 40) (pc := 15) (dec_at lsk_277 (k := 11) rfl) rfl (by decide) ?_
  refine u_idiv (pc := 17) (dec_at lsk_277 (k := 12) rfl) g1 (by decide) (by decide) ?_
  refine u_c (x := 10) (pc := 18) (dec_at lsk_277 (k := 13) rfl) rfl (by decide) ?_
  refine u_idiv (pc := 20) (dec_at lsk_277 (k := 14) rfl) g2 (by decide) (by decide) ?_
  refine u_sto (lv' := [.ref 271, iV l1, iV l2, iV (l2.tmod 40), iV ((l2.tdiv 40).tmod 10), iV ((l2.tdiv 40).tdiv 10), .retAddr 0, .retAddr 0, .retAddr 0, .retAddr 0, .retAddr 0, .retAddr 0, .retAddr 0]) (pc := 21) (dec_at lsk_277 (k := 15) rfl) rfl ?_
  refine u_ld (v := iV 0) (pc := 23) (dec_at lsk_277 (k := 16) rfl) rfl ?_
  refine u_sto (lv' := [.ref 271, iV l1, iV l2, iV (l2.tmod 40), iV ((l2.tdiv 40).tmod 10), iV ((l2.tdiv 40).tdiv 10), iV 0, .retAddr 0, .retAddr 0, .retAddr 0, .retAddr 0, .retAddr 0, .retAddr 0]) (pc := 24) (dec_at lsk_277 (k := 17) rfl) rfl ?_
  exact h
theorem k_277_26 {d : Nat} {Q : uS → Prop} {u : uS} {l1 l2 l3 l4 l5 l6 : Int} (h : (0 ≤ l6) ∧ ((l6 < 30) ∧ ((rI (u.1 275 l6)) ∧ ((rI l4) ∧ (if u.1 275 l6 = l4 then ((0 ≤ (((40 * l6) + l5) * 40) + l3) ∧ (((((40 * l6) + l5) * 40) + l3 < 48000) ∧ ((0 ≤ l2) ∧ ((l2 < 16000) ∧ ((rL (u.1 326 ((((40 * l6) + l5) * 40) + l3))) ∧ ((rL (u.1 324 l2)) ∧ (if u.1 326 ((((40 * l6) + l5) * 40) + l3) = u.1 324 l2 then ((rI (u.1 327 ((((40 * l6) + l5) * 40) + l3))) ∧ ((rI (u.1 325 l2)) ∧ (if u.1 327 ((((40 * l6) + l5) * 40) + l3) = u.1 325 l2 then (∀ u16 : uS, u16 = wr u 331 l2 l6 → (∀ u18 : uS, u18 = wr u16 334 l2 (u16.1 324 l2) → (∀ u20 : uS, u20 = wr u18 335 l2 (u18.1 325 l2) → (cV (d + 1) 278 [.ref 271, iV l1, iV l6, iV l3] u20 (fun u22 => (0 ≤ 7 * l2) ∧ ((7 * l2 < 112000) ∧ (∀ u25 : uS, u25 = wr u22 332 (7 * l2) l5 → (K_277 (d + 1) 160 [.ref 271, iV l1, iV l2, .retAddr 0, .retAddr 0, .retAddr 0, iV l6, lV 0, .retAddr 0, iV l5, iV 0, .retAddr 0, .retAddr 0] [] u25 Q)))))))) else (K_277 (d + 1) 26 [.ref 271, iV l1, iV l2, iV l3, iV l4, iV l5, iV (l6 + 1), .retAddr 0, .retAddr 0, .retAddr 0, .retAddr 0, .retAddr 0, .retAddr 0] [] u Q)))) else (K_277 (d + 1) 26 [.ref 271, iV l1, iV l2, iV l3, iV l4, iV l5, iV (l6 + 1), .retAddr 0, .retAddr 0, .retAddr 0, .retAddr 0, .retAddr 0, .retAddr 0] [] u Q)))))))) else (K_277 (d + 1) 26 [.ref 271, iV l1, iV l2, iV l3, iV l4, iV l5, iV (l6 + 1), .retAddr 0, .retAddr 0, .retAddr 0, .retAddr 0, .retAddr 0, .retAddr 0] [] u Q)))))) : K_277 (d + 1) 26 [.ref 271, iV l1, iV l2, iV l3, iV l4, iV l5, iV l6, .retAddr 0, .retAddr 0, .retAddr 0, .retAddr 0, .retAddr 0, .retAddr 0] [] u Q := by
  unfold K_277
  refine u_ld (v := .ref 271) (pc := 26) (dec_at lsk_277 (k := 18) rfl) rfl ?_
  refine u_gS (o := 4) (p := 275) (pc := 27) (dec_at lsk_277 (k := 19) rfl) f_12_19 sx_271 rfl rfl ?_
  refine u_ld (v := iV l6) (pc := 30) (dec_at lsk_277 (k := 20) rfl) rfl ?_
  have g1 := h.1
  have h := h.2
  have g2 := h.1
  have h := h.2
  refine u_iald (pc := 32) (dec_at lsk_277 (k := 21) rfl) sx_275 g1 g2 ?_
  refine u_ld (v := iV l4) (pc := 33) (dec_at lsk_277 (k := 22) rfl) rfl ?_
  have g3 := h.1
  have h := h.2
  have g4 := h.1
  have h := h.2
  refine u_icF (pc := 35) (tgt := 93) (dec_at lsk_277 (k := 23) rfl) rfl (ci_ne g3 g4) (fun e5 => ?_) (fun e5 => ?_)
  · have h := ifT e5 h
    refine u_ld (v := .ref 271) (pc := 38) (dec_at lsk_277 (k := 24) rfl) rfl ?_
    refine u_gS (o := 55) (p := 326) (pc := 39) (dec_at lsk_277 (k := 25) rfl) f_12_176 sx_271 rfl rfl ?_
    refine u_c (x := 40) (pc := 42) (dec_at lsk_277 (k := 26) rfl) rfl (by decide) ?_
    refine u_ld (v := iV l6) (pc := 44) (dec_at lsk_277 (k := 27) rfl) rfl ?_
    refine u_imul (pc := 46) (dec_at lsk_277 (k := 28) rfl) ?_
    refine u_ld (v := iV l5) (pc := 47) (dec_at lsk_277 (k := 29) rfl) rfl ?_
    refine u_iadd (pc := 49) (dec_at lsk_277 (k := 30) rfl) ?_
    refine u_c (x := 40) (pc := 50) (dec_at lsk_277 (k := 31) rfl) rfl (by decide) ?_
    refine u_imul (pc := 52) (dec_at lsk_277 (k := 32) rfl) ?_
    refine u_ld (v := iV l3) (pc := 53) (dec_at lsk_277 (k := 33) rfl) rfl ?_
    refine u_iadd (pc := 54) (dec_at lsk_277 (k := 34) rfl) ?_
    have g6 := h.1
    have h := h.2
    have g7 := h.1
    have h := h.2
    refine u_lald (pc := 55) (dec_at lsk_277 (k := 35) rfl) sx_326 g6 g7 ?_
    refine u_ld (v := .ref 271) (pc := 56) (dec_at lsk_277 (k := 36) rfl) rfl ?_
    refine u_gS (o := 53) (p := 324) (pc := 57) (dec_at lsk_277 (k := 37) rfl) f_12_169 sx_271 rfl rfl ?_
    refine u_ld (v := iV l2) (pc := 60) (dec_at lsk_277 (k := 38) rfl) rfl ?_
    have g8 := h.1
    have h := h.2
    have g9 := h.1
    have h := h.2
    refine u_lald (pc := 61) (dec_at lsk_277 (k := 39) rfl) sx_324 g8 g9 ?_
    refine u_st (st' := [.int (lg_cmp (Int64.ofInt (u.1 326 ((((40 * l6) + l5) * 40) + l3))) (Int64.ofInt (u.1 324 l2)))]) (pc := 62) (dec_at lsk_277 (k := 40) rfl) rfl ?_
    have g10 := h.1
    have h := h.2
    have g11 := h.1
    have h := h.2
    refine u_ifF (pc := 63) (tgt := 93) (dec_at lsk_277 (k := 41) rfl) rfl (cl_ne g10 g11) (fun e12 => ?_) (fun e12 => ?_)
    · have h := ifT e12 h
      refine u_ld (v := .ref 271) (pc := 66) (dec_at lsk_277 (k := 42) rfl) rfl ?_
      refine u_gS (o := 56) (p := 327) (pc := 67) (dec_at lsk_277 (k := 43) rfl) f_12_179 sx_271 rfl rfl ?_
      refine u_c (x := 40) (pc := 70) (dec_at lsk_277 (k := 44) rfl) rfl (by decide) ?_
      refine u_ld (v := iV l6) (pc := 72) (dec_at lsk_277 (k := 45) rfl) rfl ?_
      refine u_imul (pc := 74) (dec_at lsk_277 (k := 46) rfl) ?_
      refine u_ld (v := iV l5) (pc := 75) (dec_at lsk_277 (k := 47) rfl) rfl ?_
      refine u_iadd (pc := 77) (dec_at lsk_277 (k := 48) rfl) ?_
      refine u_c (x := 40) (pc := 78) (dec_at lsk_277 (k := 49) rfl) rfl (by decide) ?_
      refine u_imul (pc := 80) (dec_at lsk_277 (k := 50) rfl) ?_
      refine u_ld (v := iV l3) (pc := 81) (dec_at lsk_277 (k := 51) rfl) rfl ?_
      refine u_iadd (pc := 82) (dec_at lsk_277 (k := 52) rfl) ?_
      refine u_iald (pc := 83) (dec_at lsk_277 (k := 53) rfl) sx_327 g6 g7 ?_
      refine u_ld (v := .ref 271) (pc := 84) (dec_at lsk_277 (k := 54) rfl) rfl ?_
      refine u_gS (o := 54) (p := 325) (pc := 85) (dec_at lsk_277 (k := 55) rfl) f_12_172 sx_271 rfl rfl ?_
      refine u_ld (v := iV l2) (pc := 88) (dec_at lsk_277 (k := 56) rfl) rfl ?_
      refine u_iald (pc := 89) (dec_at lsk_277 (k := 57) rfl) sx_325 g8 g9 ?_
      have g13 := h.1
      have h := h.2
      have g14 := h.1
      have h := h.2
      refine u_icT (pc := 90) (tgt := 99) (dec_at lsk_277 (k := 58) rfl) rfl (ci_eq g13 g14) (fun e15 => ?_) (fun e15 => ?_)
      · have h := ifT e15 h
        refine u_ld (v := .ref 271) (pc := 99) (dec_at lsk_277 (k := 61) rfl) rfl ?_
        refine u_gS (o := 60) (p := 331) (pc := 100) (dec_at lsk_277 (k := 62) rfl) f_12_191 sx_271 rfl rfl ?_
        refine u_ld (v := iV l2) (pc := 103) (dec_at lsk_277 (k := 63) rfl) rfl ?_
        refine u_ld (v := iV l6) (pc := 104) (dec_at lsk_277 (k := 64) rfl) rfl ?_
        refine u_iast (pc := 106) (dec_at lsk_277 (k := 65) rfl) sx_331 g8 g9 (fun u16 e17 => ?_)
        have h := h u16 e17
        refine u_ld (v := .ref 271) (pc := 107) (dec_at lsk_277 (k := 66) rfl) rfl ?_
        refine u_gS (o := 63) (p := 334) (pc := 108) (dec_at lsk_277 (k := 67) rfl) f_12_201 sx_271 rfl rfl ?_
        refine u_ld (v := iV l2) (pc := 111) (dec_at lsk_277 (k := 68) rfl) rfl ?_
        refine u_ld (v := .ref 271) (pc := 112) (dec_at lsk_277 (k := 69) rfl) rfl ?_
        refine u_gS (o := 53) (p := 324) (pc := 113) (dec_at lsk_277 (k := 70) rfl) f_12_169 sx_271 rfl rfl ?_
        refine u_ld (v := iV l2) (pc := 116) (dec_at lsk_277 (k := 71) rfl) rfl ?_
        refine u_lald (pc := 117) (dec_at lsk_277 (k := 72) rfl) sx_324 g8 g9 ?_
        refine u_last (pc := 118) (dec_at lsk_277 (k := 73) rfl) sx_334 g8 g9 (fun u18 e19 => ?_)
        have h := h u18 e19
        refine u_ld (v := .ref 271) (pc := 119) (dec_at lsk_277 (k := 74) rfl) rfl ?_
        refine u_gS (o := 64) (p := 335) (pc := 120) (dec_at lsk_277 (k := 75) rfl) f_12_204 sx_271 rfl rfl ?_
        refine u_ld (v := iV l2) (pc := 123) (dec_at lsk_277 (k := 76) rfl) rfl ?_
        refine u_ld (v := .ref 271) (pc := 124) (dec_at lsk_277 (k := 77) rfl) rfl ?_
        refine u_gS (o := 54) (p := 325) (pc := 125) (dec_at lsk_277 (k := 78) rfl) f_12_172 sx_271 rfl rfl ?_
        refine u_ld (v := iV l2) (pc := 128) (dec_at lsk_277 (k := 79) rfl) rfl ?_
        refine u_iald (pc := 129) (dec_at lsk_277 (k := 80) rfl) sx_325 g8 g9 ?_
        refine u_iast (pc := 130) (dec_at lsk_277 (k := 81) rfl) sx_335 g8 g9 (fun u20 e21 => ?_)
        have h := h u20 e21
        refine u_ld (v := .ref 271) (pc := 131) (dec_at lsk_277 (k := 82) rfl) rfl ?_
        refine u_ld (v := iV l1) (pc := 132) (dec_at lsk_277 (k := 83) rfl) rfl ?_
        refine u_ld (v := iV l6) (pc := 133) (dec_at lsk_277 (k := 84) rfl) rfl ?_
        refine u_ld (v := iV l3) (pc := 135) (dec_at lsk_277 (k := 85) rfl) rfl ?_
        refine u_cvV (As := [iV l1, iV l6, iV l3]) (rb := 271) (st2 := []) (pc := 136) (dec_at lsk_277 (k := 86) rfl) m_12_516 (Or.inl rfl) rfl (Nat.le_of_ble_eq_true rfl) sx_271 me_278 rfl h (fun u22 h => ?_)
        refine u_cl (x := 0) (pc := 139) (dec_at lsk_277 (k := 87) rfl) rfl (by decide) ?_
        refine u_sto (lv' := [.ref 271, iV l1, iV l2, iV l3, iV l4, iV l5, iV l6, lV 0, .retAddr 0, .retAddr 0, .retAddr 0, .retAddr 0, .retAddr 0]) (pc := 140) (dec_at lsk_277 (k := 88) rfl) rfl ?_
        refine u_ld (v := iV l5) (pc := 142) (dec_at lsk_277 (k := 89) rfl) rfl ?_
        refine u_sto (lv' := [.ref 271, iV l1, iV l2, iV l3, iV l4, iV l5, iV l6, lV 0, .retAddr 0, iV l5, .retAddr 0, .retAddr 0, .retAddr 0]) (pc := 144) (dec_at lsk_277 (k := 90) rfl) rfl ?_
        refine u_ld (v := .ref 271) (pc := 146) (dec_at lsk_277 (k := 91) rfl) rfl ?_
        refine u_gS (o := 61) (p := 332) (pc := 147) (dec_at lsk_277 (k := 92) rfl) f_12_195 sx_271 rfl rfl ?_
        refine u_c (x := 7) (pc := 150) (dec_at lsk_277 (k := 93) rfl) rfl (by decide) ?_
        refine u_ld (v := iV l2) (pc := 152) (dec_at lsk_277 (k := 94) rfl) rfl ?_
        refine u_imul (pc := 153) (dec_at lsk_277 (k := 95) rfl) ?_
        refine u_ld (v := iV l5) (pc := 154) (dec_at lsk_277 (k := 96) rfl) rfl ?_
        have g23 := h.1
        have h := h.2
        have g24 := h.1
        have h := h.2
        refine u_iast (pc := 156) (dec_at lsk_277 (k := 97) rfl) sx_332 g23 g24 (fun u25 e26 => ?_)
        have h := h u25 e26
        refine u_ld (v := iV 0) (pc := 157) (dec_at lsk_277 (k := 98) rfl) rfl ?_
        refine u_sto (lv' := [.ref 271, iV l1, iV l2, iV l3, iV l4, iV l5, iV l6, lV 0, .retAddr 0, iV l5, iV 0, .retAddr 0, .retAddr 0]) (pc := 158) (dec_at lsk_277 (k := 99) rfl) rfl ?_
        exact u_weak (sbK (sbK (sbK (sbD (sbD (sbD (sbK (sbK (sbK (sbK (sbK (sbK (sbK sb0))))))))))))) h
      · have h := ifF e15 h
        refine u_inc (lv' := [.ref 271, iV l1, iV l2, iV l3, iV l4, iV l5, iV (l6 + 1), .retAddr 0, .retAddr 0, .retAddr 0, .retAddr 0, .retAddr 0, .retAddr 0]) (pc := 93) (dec_at lsk_277 (k := 59) rfl) rfl (by decide) rfl ?_
        refine u_goto (pc := 96) (tgt := 26) (dec_at lsk_277 (k := 60) rfl) rfl ?_
        exact h
    · have h := ifF e12 h
      refine u_inc (lv' := [.ref 271, iV l1, iV l2, iV l3, iV l4, iV l5, iV (l6 + 1), .retAddr 0, .retAddr 0, .retAddr 0, .retAddr 0, .retAddr 0, .retAddr 0]) (pc := 93) (dec_at lsk_277 (k := 59) rfl) rfl (by decide) rfl ?_
      refine u_goto (pc := 96) (tgt := 26) (dec_at lsk_277 (k := 60) rfl) rfl ?_
      exact h
  · have h := ifF e5 h
    refine u_inc (lv' := [.ref 271, iV l1, iV l2, iV l3, iV l4, iV l5, iV (l6 + 1), .retAddr 0, .retAddr 0, .retAddr 0, .retAddr 0, .retAddr 0, .retAddr 0]) (pc := 93) (dec_at lsk_277 (k := 59) rfl) rfl (by decide) rfl ?_
    refine u_goto (pc := 96) (tgt := 26) (dec_at lsk_277 (k := 60) rfl) rfl ?_
    exact h
theorem k_277_160 {d : Nat} {Q : uS → Prop} {u : uS} {l1 l2 l6 l7 l9 l10 : Int} (h : (0 ≤ l6) ∧ ((l6 < 30) ∧ ((rI l10) ∧ ((rI (u.1 276 l6)) ∧ (if l10 < u.1 276 l6 then ((0 ≤ (6 * l6) + l10) ∧ (((6 * l6) + l10 < 180) ∧ (K_277 (d + 1) 190 [.ref 271, iV l1, iV l2, .retAddr 0, .retAddr 0, .retAddr 0, iV l6, lV l7, .retAddr 0, iV l9, iV l10, iV (u.1 277 ((6 * l6) + l10)), iV 0] [] u Q))) else (Q u)))))) : K_277 (d + 1) 160 [.ref 271, iV l1, iV l2, .retAddr 0, .retAddr 0, .retAddr 0, iV l6, lV l7, .retAddr 0, iV l9, iV l10, .retAddr 0, .retAddr 0] [] u Q := by
  unfold K_277
  refine u_ld (v := iV l10) (pc := 160) (dec_at lsk_277 (k := 100) rfl) rfl ?_
  refine u_ld (v := .ref 271) (pc := 162) (dec_at lsk_277 (k := 101) rfl) rfl ?_
  refine u_gS (o := 5) (p := 276) (pc := 163) (dec_at lsk_277 (k := 102) rfl) f_12_22 sx_271 rfl rfl ?_
  refine u_ld (v := iV l6) (pc := 166) (dec_at lsk_277 (k := 103) rfl) rfl ?_
  have g1 := h.1
  have h := h.2
  have g2 := h.1
  have h := h.2
  refine u_iald (pc := 168) (dec_at lsk_277 (k := 104) rfl) sx_276 g1 g2 ?_
  have g3 := h.1
  have h := h.2
  have g4 := h.1
  have h := h.2
  refine u_icF (pc := 169) (tgt := 277) (dec_at lsk_277 (k := 105) rfl) rfl (ci_ge g3 g4) (fun e5 => ?_) (fun e5 => ?_)
  · have h := ifT e5 h
    refine u_ld (v := .ref 271) (pc := 172) (dec_at lsk_277 (k := 106) rfl) rfl ?_
    refine u_gS (o := 6) (p := 277) (pc := 173) (dec_at lsk_277 (k := 107) rfl) f_12_25 sx_271 rfl rfl ?_
    refine u_c (x := 6) (pc := 176) (dec_at lsk_277 (k := 108) rfl) rfl (by decide) ?_
    refine u_ld (v := iV l6) (pc := 178) (dec_at lsk_277 (k := 109) rfl) rfl ?_
    refine u_imul (pc := 180) (dec_at lsk_277 (k := 110) rfl) ?_
    refine u_ld (v := iV l10) (pc := 181) (dec_at lsk_277 (k := 111) rfl) rfl ?_
    refine u_iadd (pc := 183) (dec_at lsk_277 (k := 112) rfl) ?_
    have g6 := h.1
    have h := h.2
    have g7 := h.1
    have h := h.2
    refine u_iald (pc := 184) (dec_at lsk_277 (k := 113) rfl) sx_277 g6 g7 ?_
    refine u_sto (lv' := [.ref 271, iV l1, iV l2, .retAddr 0, .retAddr 0, .retAddr 0, iV l6, lV l7, .retAddr 0, iV l9, iV l10, iV (u.1 277 ((6 * l6) + l10)), .retAddr 0]) (pc := 185) (dec_at lsk_277 (k := 114) rfl) rfl ?_
    refine u_ld (v := iV 0) (pc := 187) (dec_at lsk_277 (k := 115) rfl) rfl ?_
    refine u_sto (lv' := [.ref 271, iV l1, iV l2, .retAddr 0, .retAddr 0, .retAddr 0, iV l6, lV l7, .retAddr 0, iV l9, iV l10, iV (u.1 277 ((6 * l6) + l10)), iV 0]) (pc := 188) (dec_at lsk_277 (k := 116) rfl) rfl ?_
    exact h
  · have h := ifF e5 h
    exact u_rV (pc := 277) (dec_at lsk_277 (k := 162) rfl) rfl h
theorem k_277_190 {d : Nat} {Q : uS → Prop} {u : uS} {l1 l2 l6 l7 l9 l10 l11 l12 : Int} (h : (rI l2) ∧ (cI (d + 1) 280 [.ref 271, iV l1, iV l10, iV l9, iV l12, iV l11, lV l2, lV l7] u (fun r3 u2 => (rI r3) ∧ (if r3 = 0 then (K_277 (d + 1) 190 [.ref 271, iV l1, iV l2, .retAddr 0, .retAddr 0, .retAddr 0, iV l6, lV l7, .retAddr 0, iV l9, iV l10, iV l11, iV (l12 + 1)] [] u2 Q) else ((rI l11) ∧ (if l11 < 100 then ((cn 5000000000000000000 l7) ∧ ((cn 5000000000000000000 1) ∧ ((0 ≤ ((7 * l2) + l10) + 1) ∧ ((((7 * l2) + l10) + 1 < 112000) ∧ (∀ u12 : uS, u12 = wr u2 332 (((7 * l2) + l10) + 1) l12 → (K_277 (d + 1) 160 [.ref 271, iV l1, iV l2, .retAddr 0, .retAddr 0, .retAddr 0, iV l6, lV (pl 5000000000000000000 l7 1), .retAddr 0, iV l12, iV (l10 + 1), .retAddr 0, .retAddr 0] [] u12 Q)))))) else ((0 ≤ (((10 * l9) + (l11 - 100)) * 40) + l12) ∧ (((((10 * l9) + (l11 - 100)) * 40) + l12 < 16000) ∧ ((cn 5000000000000000000 l7) ∧ ((cn 5000000000000000000 (u2.1 324 ((((10 * l9) + (l11 - 100)) * 40) + l12))) ∧ ((0 ≤ ((7 * l2) + l10) + 1) ∧ ((((7 * l2) + l10) + 1 < 112000) ∧ (∀ u20 : uS, u20 = wr u2 332 (((7 * l2) + l10) + 1) l12 → (K_277 (d + 1) 160 [.ref 271, iV l1, iV l2, .retAddr 0, .retAddr 0, .retAddr 0, iV l6, lV (pl 5000000000000000000 l7 (u2.1 324 ((((10 * l9) + (l11 - 100)) * 40) + l12))), .retAddr 0, iV l12, iV (l10 + 1), .retAddr 0, .retAddr 0] [] u20 Q)))))))))))))) : K_277 (d + 1) 190 [.ref 271, iV l1, iV l2, .retAddr 0, .retAddr 0, .retAddr 0, iV l6, lV l7, .retAddr 0, iV l9, iV l10, iV l11, iV l12] [] u Q := by
  unfold K_277
  refine u_ld (v := .ref 271) (pc := 190) (dec_at lsk_277 (k := 117) rfl) rfl ?_
  refine u_ld (v := iV l1) (pc := 191) (dec_at lsk_277 (k := 118) rfl) rfl ?_
  refine u_ld (v := iV l10) (pc := 192) (dec_at lsk_277 (k := 119) rfl) rfl ?_
  refine u_ld (v := iV l9) (pc := 194) (dec_at lsk_277 (k := 120) rfl) rfl ?_
  refine u_ld (v := iV l12) (pc := 196) (dec_at lsk_277 (k := 121) rfl) rfl ?_
  refine u_ld (v := iV l11) (pc := 198) (dec_at lsk_277 (k := 122) rfl) rfl ?_
  refine u_ld (v := iV l2) (pc := 200) (dec_at lsk_277 (k := 123) rfl) rfl ?_
  have g1 := h.1
  have h := h.2
  refine u_i2l (pc := 201) (dec_at lsk_277 (k := 124) rfl) g1 ?_
  refine u_ld (v := lV l7) (pc := 202) (dec_at lsk_277 (k := 125) rfl) rfl ?_
  refine u_cvI (As := [iV l1, iV l10, iV l9, iV l12, iV l11, lV l2, lV l7]) (rb := 271) (st2 := []) (pc := 204) (dec_at lsk_277 (k := 126) rfl) m_12_519 (Or.inl rfl) rfl (Nat.le_of_ble_eq_true rfl) sx_271 me_280 rfl h (fun r3 u2 h => ?_)
  have g4 := h.1
  have h := h.2
  refine u_ifF (pc := 207) (tgt := 216) (dec_at lsk_277 (k := 127) rfl) rfl (c0_ne g4) (fun e5 => ?_) (fun e5 => ?_)
  · have h := ifT e5 h
    refine u_inc (lv' := [.ref 271, iV l1, iV l2, .retAddr 0, .retAddr 0, .retAddr 0, iV l6, lV l7, .retAddr 0, iV l9, iV l10, iV l11, iV (l12 + 1)]) (pc := 210) (dec_at lsk_277 (k := 128) rfl) rfl (by decide) rfl ?_
    refine u_goto (pc := 213) (tgt := 190) (dec_at lsk_277 (k := 129) rfl) rfl ?_
    exact h
  · have h := ifF e5 h
    refine u_ld (v := lV l7) (pc := 216) (dec_at lsk_277 (k := 130) rfl) rfl ?_
    refine u_ld (v := iV l11) (pc := 218) (dec_at lsk_277 (k := 131) rfl) rfl ?_
    refine u_c (x := 100) (pc := 220) (dec_at lsk_277 (k := 132) rfl) rfl (by decide) ?_
    have g6 := h.1
    have h := h.2
    refine u_icF (pc := 222) (tgt := 229) (dec_at lsk_277 (k := 133) rfl) rfl (ci_ge g6 (by decide)) (fun e7 => ?_) (fun e7 => ?_)
    · have h := ifT e7 h
      refine u_cl (x := 1) (pc := 225) (dec_at lsk_277 (k := 134) rfl) rfl (by decide) ?_
      refine u_goto (pc := 226) (tgt := 246) (dec_at lsk_277 (k := 135) rfl) rfl ?_
      have g8 := h.1
      have h := h.2
      have g9 := h.1
      have h := h.2
      refine u_csL (As := [lV l7, lV 1]) (st2 := []) (pc := 246) (dec_at lsk_277 (k := 145) rfl) m_12_323 (Or.inl rfl) rfl (Nat.le_of_ble_eq_true rfl) (p_217 g8 g9) (fun r_ u_ h_ => ?_)
      rw [h_.1, h_.2]
      refine u_sto (lv' := [.ref 271, iV l1, iV l2, .retAddr 0, .retAddr 0, .retAddr 0, iV l6, lV (pl 5000000000000000000 l7 1), .retAddr 0, iV l9, iV l10, iV l11, iV l12]) (pc := 249) (dec_at lsk_277 (k := 146) rfl) rfl ?_
      refine u_ld (v := iV l12) (pc := 251) (dec_at lsk_277 (k := 147) rfl) rfl ?_
      refine u_sto (lv' := [.ref 271, iV l1, iV l2, .retAddr 0, .retAddr 0, .retAddr 0, iV l6, lV (pl 5000000000000000000 l7 1), .retAddr 0, iV l12, iV l10, iV l11, iV l12]) (pc := 253) (dec_at lsk_277 (k := 148) rfl) rfl ?_
      refine u_ld (v := .ref 271) (pc := 255) (dec_at lsk_277 (k := 149) rfl) rfl ?_
      refine u_gS (o := 61) (p := 332) (pc := 256) (dec_at lsk_277 (k := 150) rfl) f_12_195 sx_271 rfl rfl ?_
      refine u_c (x := 7) (pc := 259) (dec_at lsk_277 (k := 151) rfl) rfl (by decide) ?_
      refine u_ld (v := iV l2) (pc := 261) (dec_at lsk_277 (k := 152) rfl) rfl ?_
      refine u_imul (pc := 262) (dec_at lsk_277 (k := 153) rfl) ?_
      refine u_ld (v := iV l10) (pc := 263) (dec_at lsk_277 (k := 154) rfl) rfl ?_
      refine u_iadd (pc := 265) (dec_at lsk_277 (k := 155) rfl) ?_
      refine u_ld (v := iV 1) (pc := 266) (dec_at lsk_277 (k := 156) rfl) rfl ?_
      refine u_iadd (pc := 267) (dec_at lsk_277 (k := 157) rfl) ?_
      refine u_ld (v := iV l12) (pc := 268) (dec_at lsk_277 (k := 158) rfl) rfl ?_
      have g10 := h.1
      have h := h.2
      have g11 := h.1
      have h := h.2
      refine u_iast (pc := 270) (dec_at lsk_277 (k := 159) rfl) sx_332 g10 g11 (fun u12 e13 => ?_)
      have h := h u12 e13
      refine u_inc (lv' := [.ref 271, iV l1, iV l2, .retAddr 0, .retAddr 0, .retAddr 0, iV l6, lV (pl 5000000000000000000 l7 1), .retAddr 0, iV l12, iV (l10 + 1), iV l11, iV l12]) (pc := 271) (dec_at lsk_277 (k := 160) rfl) rfl (by decide) rfl ?_
      refine u_goto (pc := 274) (tgt := 160) (dec_at lsk_277 (k := 161) rfl) rfl ?_
      exact u_weak (sbK (sbK (sbK (sbK (sbK (sbK (sbK (sbK (sbK (sbK (sbK (sbD (sbD sb0))))))))))))) h
    · have h := ifF e7 h
      refine u_ld (v := .ref 271) (pc := 229) (dec_at lsk_277 (k := 136) rfl) rfl ?_
      refine u_gS (o := 53) (p := 324) (pc := 230) (dec_at lsk_277 (k := 137) rfl) f_12_169 sx_271 rfl rfl ?_
      refine u_ld (v := iV l9) (pc := 233) (dec_at lsk_277 (k := 138) rfl) rfl ?_
      refine u_ld (v := iV l11) (pc := 235) (dec_at lsk_277 (k := 139) rfl) rfl ?_
      refine u_c (x := 100) (pc := 237) (dec_at lsk_277 (k := 140) rfl) rfl (by decide) ?_
      refine u_isub (pc := 239) (dec_at lsk_277 (k := 141) rfl) ?_
      refine u_ld (v := iV l12) (pc := 240) (dec_at lsk_277 (k := 142) rfl) rfl ?_
      refine u_csI (As := [iV l9, iV (l11 - 100), iV l12]) (st2 := [.ref 324, lV l7]) (pc := 242) (dec_at lsk_277 (k := 143) rfl) m_12_494 (Or.inl rfl) rfl (Nat.le_of_ble_eq_true rfl) ?_ (fun _ _ h_ => h_)
      refine u_of me_274 (Nat.le_of_ble_eq_true rfl) ?_
      refine u_c (x := 10) (pc := 0) (dec_at lsk_274 (k := 0) rfl) rfl (by decide) ?_
      refine u_ld (v := iV l9) (pc := 2) (dec_at lsk_274 (k := 1) rfl) rfl ?_
      refine u_imul (pc := 3) (dec_at lsk_274 (k := 2) rfl) ?_
      refine u_ld (v := iV (l11 - 100)) (pc := 4) (dec_at lsk_274 (k := 3) rfl) rfl ?_
      refine u_iadd (pc := 5) (dec_at lsk_274 (k := 4) rfl) ?_
      refine u_c (x := 40) (pc := 6) (dec_at lsk_274 (k := 5) rfl) rfl (by decide) ?_
      refine u_imul (pc := 8) (dec_at lsk_274 (k := 6) rfl) ?_
      refine u_ld (v := iV l12) (pc := 9) (dec_at lsk_274 (k := 7) rfl) rfl ?_
      refine u_iadd (pc := 10) (dec_at lsk_274 (k := 8) rfl) ?_
      refine u_rI (pc := 11) (dec_at lsk_274 (k := 9) rfl) rfl ?_
      have g14 := h.1
      have h := h.2
      have g15 := h.1
      have h := h.2
      refine u_lald (pc := 245) (dec_at lsk_277 (k := 144) rfl) sx_324 g14 g15 ?_
      have g16 := h.1
      have h := h.2
      have g17 := h.1
      have h := h.2
      refine u_csL (As := [lV l7, lV (u2.1 324 ((((10 * l9) + (l11 - 100)) * 40) + l12))]) (st2 := []) (pc := 246) (dec_at lsk_277 (k := 145) rfl) m_12_323 (Or.inl rfl) rfl (Nat.le_of_ble_eq_true rfl) (p_217 g16 g17) (fun r_ u_ h_ => ?_)
      rw [h_.1, h_.2]
      refine u_sto (lv' := [.ref 271, iV l1, iV l2, .retAddr 0, .retAddr 0, .retAddr 0, iV l6, lV (pl 5000000000000000000 l7 (u2.1 324 ((((10 * l9) + (l11 - 100)) * 40) + l12))), .retAddr 0, iV l9, iV l10, iV l11, iV l12]) (pc := 249) (dec_at lsk_277 (k := 146) rfl) rfl ?_
      refine u_ld (v := iV l12) (pc := 251) (dec_at lsk_277 (k := 147) rfl) rfl ?_
      refine u_sto (lv' := [.ref 271, iV l1, iV l2, .retAddr 0, .retAddr 0, .retAddr 0, iV l6, lV (pl 5000000000000000000 l7 (u2.1 324 ((((10 * l9) + (l11 - 100)) * 40) + l12))), .retAddr 0, iV l12, iV l10, iV l11, iV l12]) (pc := 253) (dec_at lsk_277 (k := 148) rfl) rfl ?_
      refine u_ld (v := .ref 271) (pc := 255) (dec_at lsk_277 (k := 149) rfl) rfl ?_
      refine u_gS (o := 61) (p := 332) (pc := 256) (dec_at lsk_277 (k := 150) rfl) f_12_195 sx_271 rfl rfl ?_
      refine u_c (x := 7) (pc := 259) (dec_at lsk_277 (k := 151) rfl) rfl (by decide) ?_
      refine u_ld (v := iV l2) (pc := 261) (dec_at lsk_277 (k := 152) rfl) rfl ?_
      refine u_imul (pc := 262) (dec_at lsk_277 (k := 153) rfl) ?_
      refine u_ld (v := iV l10) (pc := 263) (dec_at lsk_277 (k := 154) rfl) rfl ?_
      refine u_iadd (pc := 265) (dec_at lsk_277 (k := 155) rfl) ?_
      refine u_ld (v := iV 1) (pc := 266) (dec_at lsk_277 (k := 156) rfl) rfl ?_
      refine u_iadd (pc := 267) (dec_at lsk_277 (k := 157) rfl) ?_
      refine u_ld (v := iV l12) (pc := 268) (dec_at lsk_277 (k := 158) rfl) rfl ?_
      have g18 := h.1
      have h := h.2
      have g19 := h.1
      have h := h.2
      refine u_iast (pc := 270) (dec_at lsk_277 (k := 159) rfl) sx_332 g18 g19 (fun u20 e21 => ?_)
      have h := h u20 e21
      refine u_inc (lv' := [.ref 271, iV l1, iV l2, .retAddr 0, .retAddr 0, .retAddr 0, iV l6, lV (pl 5000000000000000000 l7 (u2.1 324 ((((10 * l9) + (l11 - 100)) * 40) + l12))), .retAddr 0, iV l12, iV (l10 + 1), iV l11, iV l12]) (pc := 271) (dec_at lsk_277 (k := 160) rfl) rfl (by decide) rfl ?_
      refine u_goto (pc := 274) (tgt := 160) (dec_at lsk_277 (k := 161) rfl) rfl ?_
      exact u_weak (sbK (sbK (sbK (sbK (sbK (sbK (sbK (sbK (sbK (sbK (sbK (sbD (sbD sb0))))))))))))) h
/-- method 278 -/
def K_278 (d pc : Nat) (lv : ev_L) (st : List Value) (u : uS) (Q : uS → Prop) : Prop := okU d 12 13 false none prog_14_method_77_code (qV Q) pc lv st u
theorem e_278 {d : Nat} {Q : uS → Prop} {u : uS} {l1 l2 l3 : Int} (h : (0 ≤ l1) ∧ ((l1 < 100) ∧ ((0 ≤ l2) ∧ ((l2 < 30) ∧ (K_278 (d + 1) 19 [.ref 271, iV l1, iV l2, iV l3, iV (u.1 301 l1), iV (u.1 276 l2), iV 0, .retAddr 0, .retAddr 0, .retAddr 0, .retAddr 0, .retAddr 0, .retAddr 0] [] u Q))))) : cV (d + 2) 278 [.ref 271, iV l1, iV l2, iV l3] u Q := by
  refine u_of me_278 (Nat.le_of_ble_eq_true rfl) ?_
  refine u_ld (v := .ref 271) (pc := 0) (dec_at lsk_278 (k := 0) rfl) rfl ?_
  refine u_gS (o := 30) (p := 301) (pc := 1) (dec_at lsk_278 (k := 1) rfl) f_12_99 sx_271 rfl rfl ?_
  refine u_ld (v := iV l1) (pc := 4) (dec_at lsk_278 (k := 2) rfl) rfl ?_
  have g1 := h.1
  have h := h.2
  have g2 := h.1
  have h := h.2
  refine u_iald (pc := 5) (dec_at lsk_278 (k := 3) rfl) sx_301 g1 g2 ?_
  refine u_sto (lv' := [.ref 271, iV l1, iV l2, iV l3, iV (u.1 301 l1), .retAddr 0, .retAddr 0, .retAddr 0, .retAddr 0, .retAddr 0, .retAddr 0, .retAddr 0, .retAddr 0]) (pc := 6) (dec_at lsk_278 (k := 4) rfl) rfl ?_
  refine u_ld (v := .ref 271) (pc := 8) (dec_at lsk_278 (k := 5) rfl) rfl ?_
  refine u_gS (o := 5) (p := 276) (pc := 9) (dec_at lsk_278 (k := 6) rfl) f_12_22 sx_271 rfl rfl ?_
  refine u_ld (v := iV l2) (pc := 12) (dec_at lsk_278 (k := 7) rfl) rfl ?_
  have g3 := h.1
  have h := h.2
  have g4 := h.1
  have h := h.2
  refine u_iald (pc := 13) (dec_at lsk_278 (k := 8) rfl) sx_276 g3 g4 ?_
  refine u_sto (lv' := [.ref 271, iV l1, iV l2, iV l3, iV (u.1 301 l1), iV (u.1 276 l2), .retAddr 0, .retAddr 0, .retAddr 0, .retAddr 0, .retAddr 0, .retAddr 0, .retAddr 0]) (pc := 14) (dec_at lsk_278 (k := 9) rfl) rfl ?_
  refine u_ld (v := iV 0) (pc := 16) (dec_at lsk_278 (k := 10) rfl) rfl ?_
  refine u_sto (lv' := [.ref 271, iV l1, iV l2, iV l3, iV (u.1 301 l1), iV (u.1 276 l2), iV 0, .retAddr 0, .retAddr 0, .retAddr 0, .retAddr 0, .retAddr 0, .retAddr 0]) (pc := 17) (dec_at lsk_278 (k := 11) rfl) rfl ?_
  exact h
theorem k_278_19 {d : Nat} {Q : uS → Prop} {u : uS} {l1 l2 l3 l4 l5 l6 : Int} (h : (rI l6) ∧ ((rI l4) ∧ (if l6 < l4 then ((rI l3) ∧ (if l6 = l3 then ((0 ≤ (40 * l5) + l6) ∧ (((40 * l5) + l6 < 280) ∧ (∀ u8 : uS, u8 = wr u 342 ((40 * l5) + l6) 0 → (∀ u10 : uS, u10 = wr u8 343 ((40 * l5) + l6) 0 → (∀ u13 : uS, u13 = wr u10 344 ((40 * l5) + l6) 0 → (K_278 (d + 1) 19 [.ref 271, iV l1, iV l2, iV l3, iV l4, iV l5, iV (l6 + 1), .retAddr 0, .retAddr 0, .retAddr 0, .retAddr 0, .retAddr 0, .retAddr 0] [] u13 Q)))))) else ((0 ≤ (40 * l5) + l6) ∧ (((40 * l5) + l6 < 280) ∧ (∀ u17 : uS, u17 = wr u 342 ((40 * l5) + l6) 6000000000000000000 → (∀ u19 : uS, u19 = wr u17 343 ((40 * l5) + l6) 0 → (∀ u22 : uS, u22 = wr u19 344 ((40 * l5) + l6) 1000000 → (K_278 (d + 1) 19 [.ref 271, iV l1, iV l2, iV l3, iV l4, iV l5, iV (l6 + 1), .retAddr 0, .retAddr 0, .retAddr 0, .retAddr 0, .retAddr 0, .retAddr 0] [] u22 Q)))))))) else (K_278 (d + 1) 104 [.ref 271, iV l1, iV l2, .retAddr 0, iV l4, .retAddr 0, iV (l5 - 1), .retAddr 0, .retAddr 0, .retAddr 0, .retAddr 0, .retAddr 0, .retAddr 0] [] u Q)))) : K_278 (d + 1) 19 [.ref 271, iV l1, iV l2, iV l3, iV l4, iV l5, iV l6, .retAddr 0, .retAddr 0, .retAddr 0, .retAddr 0, .retAddr 0, .retAddr 0] [] u Q := by
  unfold K_278
  refine u_ld (v := iV l6) (pc := 19) (dec_at lsk_278 (k := 12) rfl) rfl ?_
  refine u_ld (v := iV l4) (pc := 21) (dec_at lsk_278 (k := 13) rfl) rfl ?_
  have g1 := h.1
  have h := h.2
  have g2 := h.1
  have h := h.2
  refine u_icF (pc := 23) (tgt := 98) (dec_at lsk_278 (k := 14) rfl) rfl (ci_ge g1 g2) (fun e3 => ?_) (fun e3 => ?_)
  · have h := ifT e3 h
    refine u_ld (v := .ref 271) (pc := 26) (dec_at lsk_278 (k := 15) rfl) rfl ?_
    refine u_gS (o := 71) (p := 342) (pc := 27) (dec_at lsk_278 (k := 16) rfl) f_12_226 sx_271 rfl rfl ?_
    refine u_c (x := 40) (pc := 30) (dec_at lsk_278 (k := 17) rfl) rfl (by decide) ?_
    refine u_ld (v := iV l5) (pc := 32) (dec_at lsk_278 (k := 18) rfl) rfl ?_
    refine u_imul (pc := 34) (dec_at lsk_278 (k := 19) rfl) ?_
    refine u_ld (v := iV l6) (pc := 35) (dec_at lsk_278 (k := 20) rfl) rfl ?_
    refine u_iadd (pc := 37) (dec_at lsk_278 (k := 21) rfl) ?_
    refine u_ld (v := iV l6) (pc := 38) (dec_at lsk_278 (k := 22) rfl) rfl ?_
    refine u_ld (v := iV l3) (pc := 40) (dec_at lsk_278 (k := 23) rfl) rfl ?_
    have g4 := h.1
    have h := h.2
    refine u_icF (pc := 41) (tgt := 48) (dec_at lsk_278 (k := 24) rfl) rfl (ci_ne g1 g4) (fun e5 => ?_) (fun e5 => ?_)
    · have h := ifT e5 h
      refine u_cl (x := 0) (pc := 44) (dec_at lsk_278 (k := 25) rfl) rfl (by decide) ?_
      refine u_goto (pc := 45) (tgt := 51) (dec_at lsk_278 (k := 26) rfl) rfl ?_
      have g6 := h.1
      have h := h.2
      have g7 := h.1
      have h := h.2
      refine u_last (pc := 51) (dec_at lsk_278 (k := 28) rfl) sx_342 g6 g7 (fun u8 e9 => ?_)
      have h := h u8 e9
      refine u_ld (v := .ref 271) (pc := 52) (dec_at lsk_278 (k := 29) rfl) rfl ?_
      refine u_gS (o := 72) (p := 343) (pc := 53) (dec_at lsk_278 (k := 30) rfl) f_12_229 sx_271 rfl rfl ?_
      refine u_c (x := 40) (pc := 56) (dec_at lsk_278 (k := 31) rfl) rfl (by decide) ?_
      refine u_ld (v := iV l5) (pc := 58) (dec_at lsk_278 (k := 32) rfl) rfl ?_
      refine u_imul (pc := 60) (dec_at lsk_278 (k := 33) rfl) ?_
      refine u_ld (v := iV l6) (pc := 61) (dec_at lsk_278 (k := 34) rfl) rfl ?_
      refine u_iadd (pc := 63) (dec_at lsk_278 (k := 35) rfl) ?_
      refine u_ld (v := iV 0) (pc := 64) (dec_at lsk_278 (k := 36) rfl) rfl ?_
      refine u_iast (pc := 65) (dec_at lsk_278 (k := 37) rfl) sx_343 g6 g7 (fun u10 e11 => ?_)
      have h := h u10 e11
      refine u_ld (v := .ref 271) (pc := 66) (dec_at lsk_278 (k := 38) rfl) rfl ?_
      refine u_gS (o := 73) (p := 344) (pc := 67) (dec_at lsk_278 (k := 39) rfl) f_12_232 sx_271 rfl rfl ?_
      refine u_c (x := 40) (pc := 70) (dec_at lsk_278 (k := 40) rfl) rfl (by decide) ?_
      refine u_ld (v := iV l5) (pc := 72) (dec_at lsk_278 (k := 41) rfl) rfl ?_
      refine u_imul (pc := 74) (dec_at lsk_278 (k := 42) rfl) ?_
      refine u_ld (v := iV l6) (pc := 75) (dec_at lsk_278 (k := 43) rfl) rfl ?_
      refine u_iadd (pc := 77) (dec_at lsk_278 (k := 44) rfl) ?_
      refine u_ld (v := iV l6) (pc := 78) (dec_at lsk_278 (k := 45) rfl) rfl ?_
      refine u_ld (v := iV l3) (pc := 80) (dec_at lsk_278 (k := 46) rfl) rfl ?_
      refine u_icF (pc := 81) (tgt := 88) (dec_at lsk_278 (k := 47) rfl) rfl (ci_ne g1 g4) (fun _ => ?_) (fun e12 => absurd e5 e12)
      refine u_ld (v := iV 0) (pc := 84) (dec_at lsk_278 (k := 48) rfl) rfl ?_
      refine u_goto (pc := 85) (tgt := 91) (dec_at lsk_278 (k := 49) rfl) rfl ?_
      refine u_iast (pc := 91) (dec_at lsk_278 (k := 51) rfl) sx_344 g6 g7 (fun u13 e14 => ?_)
      have h := h u13 e14
      refine u_inc (lv' := [.ref 271, iV l1, iV l2, iV l3, iV l4, iV l5, iV (l6 + 1), .retAddr 0, .retAddr 0, .retAddr 0, .retAddr 0, .retAddr 0, .retAddr 0]) (pc := 92) (dec_at lsk_278 (k := 52) rfl) rfl (by decide) rfl ?_
      refine u_goto (pc := 95) (tgt := 19) (dec_at lsk_278 (k := 53) rfl) rfl ?_
      exact h
    · have h := ifF e5 h
      refine u_ldc2 (x := 6000000000000000000) (pc := 48) (dec_at lsk_278 (k := 27) rfl) con_12_487 (by decide) ?_
      have g15 := h.1
      have h := h.2
      have g16 := h.1
      have h := h.2
      refine u_last (pc := 51) (dec_at lsk_278 (k := 28) rfl) sx_342 g15 g16 (fun u17 e18 => ?_)
      have h := h u17 e18
      refine u_ld (v := .ref 271) (pc := 52) (dec_at lsk_278 (k := 29) rfl) rfl ?_
      refine u_gS (o := 72) (p := 343) (pc := 53) (dec_at lsk_278 (k := 30) rfl) f_12_229 sx_271 rfl rfl ?_
      refine u_c (x := 40) (pc := 56) (dec_at lsk_278 (k := 31) rfl) rfl (by decide) ?_
      refine u_ld (v := iV l5) (pc := 58) (dec_at lsk_278 (k := 32) rfl) rfl ?_
      refine u_imul (pc := 60) (dec_at lsk_278 (k := 33) rfl) ?_
      refine u_ld (v := iV l6) (pc := 61) (dec_at lsk_278 (k := 34) rfl) rfl ?_
      refine u_iadd (pc := 63) (dec_at lsk_278 (k := 35) rfl) ?_
      refine u_ld (v := iV 0) (pc := 64) (dec_at lsk_278 (k := 36) rfl) rfl ?_
      refine u_iast (pc := 65) (dec_at lsk_278 (k := 37) rfl) sx_343 g15 g16 (fun u19 e20 => ?_)
      have h := h u19 e20
      refine u_ld (v := .ref 271) (pc := 66) (dec_at lsk_278 (k := 38) rfl) rfl ?_
      refine u_gS (o := 73) (p := 344) (pc := 67) (dec_at lsk_278 (k := 39) rfl) f_12_232 sx_271 rfl rfl ?_
      refine u_c (x := 40) (pc := 70) (dec_at lsk_278 (k := 40) rfl) rfl (by decide) ?_
      refine u_ld (v := iV l5) (pc := 72) (dec_at lsk_278 (k := 41) rfl) rfl ?_
      refine u_imul (pc := 74) (dec_at lsk_278 (k := 42) rfl) ?_
      refine u_ld (v := iV l6) (pc := 75) (dec_at lsk_278 (k := 43) rfl) rfl ?_
      refine u_iadd (pc := 77) (dec_at lsk_278 (k := 44) rfl) ?_
      refine u_ld (v := iV l6) (pc := 78) (dec_at lsk_278 (k := 45) rfl) rfl ?_
      refine u_ld (v := iV l3) (pc := 80) (dec_at lsk_278 (k := 46) rfl) rfl ?_
      refine u_icF (pc := 81) (tgt := 88) (dec_at lsk_278 (k := 47) rfl) rfl (ci_ne g1 g4) (fun e21 => absurd e21 e5) (fun _ => ?_)
      refine u_ldcw (x := 1000000) (pc := 88) (dec_at lsk_278 (k := 50) rfl) con_12_489 (by decide) ?_
      refine u_iast (pc := 91) (dec_at lsk_278 (k := 51) rfl) sx_344 g15 g16 (fun u22 e23 => ?_)
      have h := h u22 e23
      refine u_inc (lv' := [.ref 271, iV l1, iV l2, iV l3, iV l4, iV l5, iV (l6 + 1), .retAddr 0, .retAddr 0, .retAddr 0, .retAddr 0, .retAddr 0, .retAddr 0]) (pc := 92) (dec_at lsk_278 (k := 52) rfl) rfl (by decide) rfl ?_
      refine u_goto (pc := 95) (tgt := 19) (dec_at lsk_278 (k := 53) rfl) rfl ?_
      exact h
  · have h := ifF e3 h
    refine u_ld (v := iV l5) (pc := 98) (dec_at lsk_278 (k := 54) rfl) rfl ?_
    refine u_ld (v := iV 1) (pc := 100) (dec_at lsk_278 (k := 55) rfl) rfl ?_
    refine u_isub (pc := 101) (dec_at lsk_278 (k := 56) rfl) ?_
    refine u_sto (lv' := [.ref 271, iV l1, iV l2, iV l3, iV l4, iV l5, iV (l5 - 1), .retAddr 0, .retAddr 0, .retAddr 0, .retAddr 0, .retAddr 0, .retAddr 0]) (pc := 102) (dec_at lsk_278 (k := 57) rfl) rfl ?_
    exact u_weak (sbK (sbK (sbK (sbD (sbK (sbD (sbK (sbK (sbK (sbK (sbK (sbK (sbK sb0))))))))))))) h
theorem k_278_104 {d : Nat} {Q : uS → Prop} {u : uS} {l1 l2 l4 l6 : Int} (h : (rI l6) ∧ (if l6 < 0 then (Q u) else ((0 ≤ (6 * l2) + l6) ∧ (((6 * l2) + l6 < 180) ∧ (K_278 (d + 1) 126 [.ref 271, iV l1, iV l2, .retAddr 0, iV l4, .retAddr 0, iV l6, iV (u.1 277 ((6 * l2) + l6)), iV 0, .retAddr 0, .retAddr 0, .retAddr 0, .retAddr 0] [] u Q))))) : K_278 (d + 1) 104 [.ref 271, iV l1, iV l2, .retAddr 0, iV l4, .retAddr 0, iV l6, .retAddr 0, .retAddr 0, .retAddr 0, .retAddr 0, .retAddr 0, .retAddr 0] [] u Q := by
  unfold K_278
  refine u_ld (v := iV l6) (pc := 104) (dec_at lsk_278 (k := 58) rfl) rfl ?_
  have g1 := h.1
  have h := h.2
  refine u_ifT (pc := 106) (tgt := 317) (dec_at lsk_278 (k := 59) rfl) rfl (c0_lt g1) (fun e2 => ?_) (fun e2 => ?_)
  · have h := ifT e2 h
    exact u_rV (pc := 317) (dec_at lsk_278 (k := 170) rfl) rfl h
  · have h := ifF e2 h
    refine u_ld (v := .ref 271) (pc := 109) (dec_at lsk_278 (k := 60) rfl) rfl ?_
    refine u_gS (o := 6) (p := 277) (pc := 110) (dec_at lsk_278 (k := 61) rfl) f_12_25 sx_271 rfl rfl ?_
    refine u_c (x := 6) (pc := 113) (dec_at lsk_278 (k := 62) rfl) rfl (by decide) ?_
    refine u_ld (v := iV l2) (pc := 115) (dec_at lsk_278 (k := 63) rfl) rfl ?_
    refine u_imul (pc := 116) (dec_at lsk_278 (k := 64) rfl) ?_
    refine u_ld (v := iV l6) (pc := 117) (dec_at lsk_278 (k := 65) rfl) rfl ?_
    refine u_iadd (pc := 119) (dec_at lsk_278 (k := 66) rfl) ?_
    have g3 := h.1
    have h := h.2
    have g4 := h.1
    have h := h.2
    refine u_iald (pc := 120) (dec_at lsk_278 (k := 67) rfl) sx_277 g3 g4 ?_
    refine u_sto (lv' := [.ref 271, iV l1, iV l2, .retAddr 0, iV l4, .retAddr 0, iV l6, iV (u.1 277 ((6 * l2) + l6)), .retAddr 0, .retAddr 0, .retAddr 0, .retAddr 0, .retAddr 0]) (pc := 121) (dec_at lsk_278 (k := 68) rfl) rfl ?_
    refine u_ld (v := iV 0) (pc := 123) (dec_at lsk_278 (k := 69) rfl) rfl ?_
    refine u_sto (lv' := [.ref 271, iV l1, iV l2, .retAddr 0, iV l4, .retAddr 0, iV l6, iV (u.1 277 ((6 * l2) + l6)), iV 0, .retAddr 0, .retAddr 0, .retAddr 0, .retAddr 0]) (pc := 124) (dec_at lsk_278 (k := 70) rfl) rfl ?_
    exact h
theorem k_278_126 {d : Nat} {Q : uS → Prop} {u : uS} {l1 l2 l4 l6 l7 l8 : Int} (h : (rI l8) ∧ ((rI l4) ∧ (if l8 < l4 then ((0 ≤ (40 * l6) + l8) ∧ (((40 * l6) + l8 < 280) ∧ (∀ u6 : uS, u6 = wr u 342 ((40 * l6) + l8) 6000000000000000000 → (∀ u8 : uS, u8 = wr u6 343 ((40 * l6) + l8) 0 → (∀ u10 : uS, u10 = wr u8 344 ((40 * l6) + l8) 1000000 → (K_278 (d + 1) 182 [.ref 271, iV l1, iV l2, .retAddr 0, iV l4, .retAddr 0, iV l6, iV l7, iV l8, iV 0, .retAddr 0, .retAddr 0, .retAddr 0] [] u10 Q)))))) else (K_278 (d + 1) 104 [.ref 271, iV l1, iV l2, .retAddr 0, iV l4, .retAddr 0, iV (l6 + (-1)), .retAddr 0, .retAddr 0, .retAddr 0, .retAddr 0, .retAddr 0, .retAddr 0] [] u Q)))) : K_278 (d + 1) 126 [.ref 271, iV l1, iV l2, .retAddr 0, iV l4, .retAddr 0, iV l6, iV l7, iV l8, .retAddr 0, .retAddr 0, .retAddr 0, .retAddr 0] [] u Q := by
  unfold K_278
  refine u_ld (v := iV l8) (pc := 126) (dec_at lsk_278 (k := 71) rfl) rfl ?_
  refine u_ld (v := iV l4) (pc := 128) (dec_at lsk_278 (k := 72) rfl) rfl ?_
  have g1 := h.1
  have h := h.2
  have g2 := h.1
  have h := h.2
  refine u_icF (pc := 130) (tgt := 311) (dec_at lsk_278 (k := 73) rfl) rfl (ci_ge g1 g2) (fun e3 => ?_) (fun e3 => ?_)
  · have h := ifT e3 h
    refine u_ld (v := .ref 271) (pc := 133) (dec_at lsk_278 (k := 74) rfl) rfl ?_
    refine u_gS (o := 71) (p := 342) (pc := 134) (dec_at lsk_278 (k := 75) rfl) f_12_226 sx_271 rfl rfl ?_
    refine u_c (x := 40) (pc := 137) (dec_at lsk_278 (k := 76) rfl) rfl (by decide) ?_
    refine u_ld (v := iV l6) (pc := 139) (dec_at lsk_278 (k := 77) rfl) rfl ?_
    refine u_imul (pc := 141) (dec_at lsk_278 (k := 78) rfl) ?_
    refine u_ld (v := iV l8) (pc := 142) (dec_at lsk_278 (k := 79) rfl) rfl ?_
    refine u_iadd (pc := 144) (dec_at lsk_278 (k := 80) rfl) ?_
    refine u_ldc2 (x := 6000000000000000000) (pc := 145) (dec_at lsk_278 (k := 81) rfl) con_12_487 (by decide) ?_
    have g4 := h.1
    have h := h.2
    have g5 := h.1
    have h := h.2
    refine u_last (pc := 148) (dec_at lsk_278 (k := 82) rfl) sx_342 g4 g5 (fun u6 e7 => ?_)
    have h := h u6 e7
    refine u_ld (v := .ref 271) (pc := 149) (dec_at lsk_278 (k := 83) rfl) rfl ?_
    refine u_gS (o := 72) (p := 343) (pc := 150) (dec_at lsk_278 (k := 84) rfl) f_12_229 sx_271 rfl rfl ?_
    refine u_c (x := 40) (pc := 153) (dec_at lsk_278 (k := 85) rfl) rfl (by decide) ?_
    refine u_ld (v := iV l6) (pc := 155) (dec_at lsk_278 (k := 86) rfl) rfl ?_
    refine u_imul (pc := 157) (dec_at lsk_278 (k := 87) rfl) ?_
    refine u_ld (v := iV l8) (pc := 158) (dec_at lsk_278 (k := 88) rfl) rfl ?_
    refine u_iadd (pc := 160) (dec_at lsk_278 (k := 89) rfl) ?_
    refine u_ld (v := iV 0) (pc := 161) (dec_at lsk_278 (k := 90) rfl) rfl ?_
    refine u_iast (pc := 162) (dec_at lsk_278 (k := 91) rfl) sx_343 g4 g5 (fun u8 e9 => ?_)
    have h := h u8 e9
    refine u_ld (v := .ref 271) (pc := 163) (dec_at lsk_278 (k := 92) rfl) rfl ?_
    refine u_gS (o := 73) (p := 344) (pc := 164) (dec_at lsk_278 (k := 93) rfl) f_12_232 sx_271 rfl rfl ?_
    refine u_c (x := 40) (pc := 167) (dec_at lsk_278 (k := 94) rfl) rfl (by decide) ?_
    refine u_ld (v := iV l6) (pc := 169) (dec_at lsk_278 (k := 95) rfl) rfl ?_
    refine u_imul (pc := 171) (dec_at lsk_278 (k := 96) rfl) ?_
    refine u_ld (v := iV l8) (pc := 172) (dec_at lsk_278 (k := 97) rfl) rfl ?_
    refine u_iadd (pc := 174) (dec_at lsk_278 (k := 98) rfl) ?_
    refine u_ldcw (x := 1000000) (pc := 175) (dec_at lsk_278 (k := 99) rfl) con_12_489 (by decide) ?_
    refine u_iast (pc := 178) (dec_at lsk_278 (k := 100) rfl) sx_344 g4 g5 (fun u10 e11 => ?_)
    have h := h u10 e11
    refine u_ld (v := iV 0) (pc := 179) (dec_at lsk_278 (k := 101) rfl) rfl ?_
    refine u_sto (lv' := [.ref 271, iV l1, iV l2, .retAddr 0, iV l4, .retAddr 0, iV l6, iV l7, iV l8, iV 0, .retAddr 0, .retAddr 0, .retAddr 0]) (pc := 180) (dec_at lsk_278 (k := 102) rfl) rfl ?_
    exact h
  · have h := ifF e3 h
    refine u_inc (lv' := [.ref 271, iV l1, iV l2, .retAddr 0, iV l4, .retAddr 0, iV (l6 + (-1)), iV l7, iV l8, .retAddr 0, .retAddr 0, .retAddr 0, .retAddr 0]) (pc := 311) (dec_at lsk_278 (k := 168) rfl) rfl (by decide) rfl ?_
    refine u_goto (pc := 314) (tgt := 104) (dec_at lsk_278 (k := 169) rfl) rfl ?_
    exact u_weak (sbK (sbK (sbK (sbK (sbK (sbK (sbK (sbD (sbD (sbK (sbK (sbK (sbK sb0))))))))))))) h
theorem k_278_182 {d : Nat} {Q : uS → Prop} {u : uS} {l1 l2 l4 l6 l7 l8 l9 : Int} (h : (rI l9) ∧ ((rI l4) ∧ (if l9 < l4 then ((0 ≤ (40 * (l6 + 1)) + l9) ∧ (((40 * (l6 + 1)) + l9 < 280) ∧ ((rL (u.1 342 ((40 * (l6 + 1)) + l9))) ∧ (if u.1 342 ((40 * (l6 + 1)) + l9) = 6000000000000000000 then (K_278 (d + 1) 182 [.ref 271, iV l1, iV l2, .retAddr 0, iV l4, .retAddr 0, iV l6, iV l7, iV l8, iV (l9 + 1), .retAddr 0, .retAddr 0, .retAddr 0] [] u Q) else ((rI l7) ∧ (if l7 < 100 then ((0 ≤ ((400 * l1) + (10 * l8)) + l7) ∧ ((((400 * l1) + (10 * l8)) + l7 < 40000) ∧ ((rI (u.1 302 (((400 * l1) + (10 * l8)) + l7))) ∧ (if u.1 302 (((400 * l1) + (10 * l8)) + l7) = l9 then (cV (d + 1) 279 [.ref 271, iV l6, iV l8, iV l9, iV l7, lV (u.1 342 ((40 * (l6 + 1)) + l9))] u (fun u14 => K_278 (d + 1) 182 [.ref 271, iV l1, iV l2, .retAddr 0, iV l4, .retAddr 0, iV l6, iV l7, iV l8, iV (l9 + 1), .retAddr 0, .retAddr 0, .retAddr 0] [] u14 Q)) else (K_278 (d + 1) 182 [.ref 271, iV l1, iV l2, .retAddr 0, iV l4, .retAddr 0, iV l6, iV l7, iV l8, iV (l9 + 1), .retAddr 0, .retAddr 0, .retAddr 0] [] u Q))))) else ((0 ≤ (((10 * l8) + (l7 - 100)) * 40) + l9) ∧ (((((10 * l8) + (l7 - 100)) * 40) + l9 < 16000) ∧ ((rL (u.1 324 ((((10 * l8) + (l7 - 100)) * 40) + l9))) ∧ (if u.1 324 ((((10 * l8) + (l7 - 100)) * 40) + l9) = 6000000000000000000 then (K_278 (d + 1) 182 [.ref 271, iV l1, iV l2, .retAddr 0, iV l4, .retAddr 0, iV l6, iV l7, iV l8, iV (l9 + 1), .retAddr 0, .retAddr 0, .retAddr 0] [] u Q) else (cV (d + 1) 279 [.ref 271, iV l6, iV l8, iV l9, iV l7, lV (u.1 342 ((40 * (l6 + 1)) + l9))] u (fun u19 => K_278 (d + 1) 182 [.ref 271, iV l1, iV l2, .retAddr 0, iV l4, .retAddr 0, iV l6, iV l7, iV l8, iV (l9 + 1), .retAddr 0, .retAddr 0, .retAddr 0] [] u19 Q)))))))))))) else (K_278 (d + 1) 126 [.ref 271, iV l1, iV l2, .retAddr 0, iV l4, .retAddr 0, iV l6, iV l7, iV (l8 + 1), .retAddr 0, .retAddr 0, .retAddr 0, .retAddr 0] [] u Q)))) : K_278 (d + 1) 182 [.ref 271, iV l1, iV l2, .retAddr 0, iV l4, .retAddr 0, iV l6, iV l7, iV l8, iV l9, .retAddr 0, .retAddr 0, .retAddr 0] [] u Q := by
  unfold K_278
  refine u_ld (v := iV l9) (pc := 182) (dec_at lsk_278 (k := 103) rfl) rfl ?_
  refine u_ld (v := iV l4) (pc := 184) (dec_at lsk_278 (k := 104) rfl) rfl ?_
  have g1 := h.1
  have h := h.2
  have g2 := h.1
  have h := h.2
  refine u_icF (pc := 186) (tgt := 305) (dec_at lsk_278 (k := 105) rfl) rfl (ci_ge g1 g2) (fun e3 => ?_) (fun e3 => ?_)
  · have h := ifT e3 h
    refine u_ld (v := .ref 271) (pc := 189) (dec_at lsk_278 (k := 106) rfl) rfl ?_
    refine u_gS (o := 71) (p := 342) (pc := 190) (dec_at lsk_278 (k := 107) rfl) f_12_226 sx_271 rfl rfl ?_
    refine u_c (x := 40) (pc := 193) (dec_at lsk_278 (k := 108) rfl) rfl (by decide) ?_
    refine u_ld (v := iV l6) (pc := 195) (dec_at lsk_278 (k := 109) rfl) rfl ?_
    refine u_ld (v := iV 1) (pc := 197) (dec_at lsk_278 (k := 110) rfl) rfl ?_
    refine u_iadd (pc := 198) (dec_at lsk_278 (k := 111) rfl) ?_
    refine u_imul (pc := 199) (dec_at lsk_278 (k := 112) rfl) ?_
    refine u_ld (v := iV l9) (pc := 200) (dec_at lsk_278 (k := 113) rfl) rfl ?_
    refine u_iadd (pc := 202) (dec_at lsk_278 (k := 114) rfl) ?_
    have g4 := h.1
    have h := h.2
    have g5 := h.1
    have h := h.2
    refine u_lald (pc := 203) (dec_at lsk_278 (k := 115) rfl) sx_342 g4 g5 ?_
    refine u_sto (lv' := [.ref 271, iV l1, iV l2, .retAddr 0, iV l4, .retAddr 0, iV l6, iV l7, iV l8, iV l9, lV (u.1 342 ((40 * (l6 + 1)) + l9)), .retAddr 0, .retAddr 0]) (pc := 204) (dec_at lsk_278 (k := 116) rfl) rfl ?_
    refine u_ld (v := lV (u.1 342 ((40 * (l6 + 1)) + l9))) (pc := 206) (dec_at lsk_278 (k := 117) rfl) rfl ?_
    refine u_ldc2 (x := 6000000000000000000) (pc := 208) (dec_at lsk_278 (k := 118) rfl) con_12_487 (by decide) ?_
    refine u_st (st' := [.int (lg_cmp (Int64.ofInt (u.1 342 ((40 * (l6 + 1)) + l9))) (Int64.ofInt 6000000000000000000))]) (pc := 211) (dec_at lsk_278 (k := 119) rfl) rfl ?_
    have g6 := h.1
    have h := h.2
    refine u_ifT (pc := 212) (tgt := 277) (dec_at lsk_278 (k := 120) rfl) rfl (cl_eq g6 (by decide)) (fun e7 => ?_) (fun e7 => ?_)
    · have h := ifT e7 h
      refine u_ld (v := iV 0) (pc := 277) (dec_at lsk_278 (k := 153) rfl) rfl ?_
      refine u_sto (lv' := [.ref 271, iV l1, iV l2, .retAddr 0, iV l4, .retAddr 0, iV l6, iV l7, iV l8, iV l9, lV (u.1 342 ((40 * (l6 + 1)) + l9)), .retAddr 0, iV 0]) (pc := 278) (dec_at lsk_278 (k := 154) rfl) rfl ?_
      refine u_ld (v := iV 0) (pc := 280) (dec_at lsk_278 (k := 155) rfl) rfl ?_
      refine u_ifT (pc := 282) (tgt := 299) (dec_at lsk_278 (k := 156) rfl) rfl (c0_eq (by decide)) (fun _ => ?_) (fun e => absurd e (by decide))
      refine u_inc (lv' := [.ref 271, iV l1, iV l2, .retAddr 0, iV l4, .retAddr 0, iV l6, iV l7, iV l8, iV (l9 + 1), lV (u.1 342 ((40 * (l6 + 1)) + l9)), .retAddr 0, iV 0]) (pc := 299) (dec_at lsk_278 (k := 164) rfl) rfl (by decide) rfl ?_
      refine u_goto (pc := 302) (tgt := 182) (dec_at lsk_278 (k := 165) rfl) rfl ?_
      exact u_weak (sbK (sbK (sbK (sbK (sbK (sbK (sbK (sbK (sbK (sbK (sbD (sbK (sbD sb0))))))))))))) h
    · have h := ifF e7 h
      refine u_ld (v := iV l7) (pc := 215) (dec_at lsk_278 (k := 121) rfl) rfl ?_
      refine u_c (x := 100) (pc := 217) (dec_at lsk_278 (k := 122) rfl) rfl (by decide) ?_
      have g8 := h.1
      have h := h.2
      refine u_icF (pc := 219) (tgt := 249) (dec_at lsk_278 (k := 123) rfl) rfl (ci_ge g8 (by decide)) (fun e9 => ?_) (fun e9 => ?_)
      · have h := ifT e9 h
        refine u_ld (v := .ref 271) (pc := 222) (dec_at lsk_278 (k := 124) rfl) rfl ?_
        refine u_gS (o := 31) (p := 302) (pc := 223) (dec_at lsk_278 (k := 125) rfl) f_12_103 sx_271 rfl rfl ?_
        refine u_c (x := 400) (pc := 226) (dec_at lsk_278 (k := 126) rfl) rfl (by decide) ?_
        refine u_ld (v := iV l1) (pc := 229) (dec_at lsk_278 (k := 127) rfl) rfl ?_
        refine u_imul (pc := 230) (dec_at lsk_278 (k := 128) rfl) ?_
        refine u_c (x := 10) (pc := 231) (dec_at lsk_278 (k := 129) rfl) rfl (by decide) ?_
        refine u_ld (v := iV l8) (pc := 233) (dec_at lsk_278 (k := 130) rfl) rfl ?_
        refine u_imul (pc := 235) (dec_at lsk_278 (k := 131) rfl) ?_
        refine u_iadd (pc := 236) (dec_at lsk_278 (k := 132) rfl) ?_
        refine u_ld (v := iV l7) (pc := 237) (dec_at lsk_278 (k := 133) rfl) rfl ?_
        refine u_iadd (pc := 239) (dec_at lsk_278 (k := 134) rfl) ?_
        have g10 := h.1
        have h := h.2
        have g11 := h.1
        have h := h.2
        refine u_iald (pc := 240) (dec_at lsk_278 (k := 135) rfl) sx_302 g10 g11 ?_
        refine u_ld (v := iV l9) (pc := 241) (dec_at lsk_278 (k := 136) rfl) rfl ?_
        have g12 := h.1
        have h := h.2
        refine u_icF (pc := 243) (tgt := 277) (dec_at lsk_278 (k := 137) rfl) rfl (ci_ne g12 g1) (fun e13 => ?_) (fun e13 => ?_)
        · have h := ifT e13 h
          refine u_goto (pc := 246) (tgt := 273) (dec_at lsk_278 (k := 138) rfl) rfl ?_
          refine u_ld (v := iV 1) (pc := 273) (dec_at lsk_278 (k := 151) rfl) rfl ?_
          refine u_goto (pc := 274) (tgt := 278) (dec_at lsk_278 (k := 152) rfl) rfl ?_
          refine u_sto (lv' := [.ref 271, iV l1, iV l2, .retAddr 0, iV l4, .retAddr 0, iV l6, iV l7, iV l8, iV l9, lV (u.1 342 ((40 * (l6 + 1)) + l9)), .retAddr 0, iV 1]) (pc := 278) (dec_at lsk_278 (k := 154) rfl) rfl ?_
          refine u_ld (v := iV 1) (pc := 280) (dec_at lsk_278 (k := 155) rfl) rfl ?_
          refine u_ifT (pc := 282) (tgt := 299) (dec_at lsk_278 (k := 156) rfl) rfl (c0_eq (by decide)) (fun e => absurd e (by decide)) (fun _ => ?_)
          refine u_ld (v := .ref 271) (pc := 285) (dec_at lsk_278 (k := 157) rfl) rfl ?_
          refine u_ld (v := iV l6) (pc := 286) (dec_at lsk_278 (k := 158) rfl) rfl ?_
          refine u_ld (v := iV l8) (pc := 288) (dec_at lsk_278 (k := 159) rfl) rfl ?_
          refine u_ld (v := iV l9) (pc := 290) (dec_at lsk_278 (k := 160) rfl) rfl ?_
          refine u_ld (v := iV l7) (pc := 292) (dec_at lsk_278 (k := 161) rfl) rfl ?_
          refine u_ld (v := lV (u.1 342 ((40 * (l6 + 1)) + l9))) (pc := 294) (dec_at lsk_278 (k := 162) rfl) rfl ?_
          refine u_cvV (As := [iV l6, iV l8, iV l9, iV l7, lV (u.1 342 ((40 * (l6 + 1)) + l9))]) (rb := 271) (st2 := []) (pc := 296) (dec_at lsk_278 (k := 163) rfl) m_12_512 (Or.inl rfl) rfl (Nat.le_of_ble_eq_true rfl) sx_271 me_279 rfl h (fun u14 h => ?_)
          refine u_inc (lv' := [.ref 271, iV l1, iV l2, .retAddr 0, iV l4, .retAddr 0, iV l6, iV l7, iV l8, iV (l9 + 1), lV (u.1 342 ((40 * (l6 + 1)) + l9)), .retAddr 0, iV 1]) (pc := 299) (dec_at lsk_278 (k := 164) rfl) rfl (by decide) rfl ?_
          refine u_goto (pc := 302) (tgt := 182) (dec_at lsk_278 (k := 165) rfl) rfl ?_
          exact u_weak (sbK (sbK (sbK (sbK (sbK (sbK (sbK (sbK (sbK (sbK (sbD (sbK (sbD sb0))))))))))))) h
        · have h := ifF e13 h
          refine u_ld (v := iV 0) (pc := 277) (dec_at lsk_278 (k := 153) rfl) rfl ?_
          refine u_sto (lv' := [.ref 271, iV l1, iV l2, .retAddr 0, iV l4, .retAddr 0, iV l6, iV l7, iV l8, iV l9, lV (u.1 342 ((40 * (l6 + 1)) + l9)), .retAddr 0, iV 0]) (pc := 278) (dec_at lsk_278 (k := 154) rfl) rfl ?_
          refine u_ld (v := iV 0) (pc := 280) (dec_at lsk_278 (k := 155) rfl) rfl ?_
          refine u_ifT (pc := 282) (tgt := 299) (dec_at lsk_278 (k := 156) rfl) rfl (c0_eq (by decide)) (fun _ => ?_) (fun e => absurd e (by decide))
          refine u_inc (lv' := [.ref 271, iV l1, iV l2, .retAddr 0, iV l4, .retAddr 0, iV l6, iV l7, iV l8, iV (l9 + 1), lV (u.1 342 ((40 * (l6 + 1)) + l9)), .retAddr 0, iV 0]) (pc := 299) (dec_at lsk_278 (k := 164) rfl) rfl (by decide) rfl ?_
          refine u_goto (pc := 302) (tgt := 182) (dec_at lsk_278 (k := 165) rfl) rfl ?_
          exact u_weak (sbK (sbK (sbK (sbK (sbK (sbK (sbK (sbK (sbK (sbK (sbD (sbK (sbD sb0))))))))))))) h
      · have h := ifF e9 h
        refine u_ld (v := .ref 271) (pc := 249) (dec_at lsk_278 (k := 139) rfl) rfl ?_
        refine u_gS (o := 53) (p := 324) (pc := 250) (dec_at lsk_278 (k := 140) rfl) f_12_169 sx_271 rfl rfl ?_
        refine u_ld (v := iV l8) (pc := 253) (dec_at lsk_278 (k := 141) rfl) rfl ?_
        refine u_ld (v := iV l7) (pc := 255) (dec_at lsk_278 (k := 142) rfl) rfl ?_
        refine u_c (x := 100) (pc := 257) (dec_at lsk_278 (k := 143) rfl) rfl (by decide) ?_
        refine u_isub (pc := 259) (dec_at lsk_278 (k := 144) rfl) ?_
        refine u_ld (v := iV l9) (pc := 260) (dec_at lsk_278 (k := 145) rfl) rfl ?_
        refine u_csI (As := [iV l8, iV (l7 - 100), iV l9]) (st2 := [.ref 324]) (pc := 262) (dec_at lsk_278 (k := 146) rfl) m_12_494 (Or.inl rfl) rfl (Nat.le_of_ble_eq_true rfl) ?_ (fun _ _ h_ => h_)
        refine u_of me_274 (Nat.le_of_ble_eq_true rfl) ?_
        refine u_c (x := 10) (pc := 0) (dec_at lsk_274 (k := 0) rfl) rfl (by decide) ?_
        refine u_ld (v := iV l8) (pc := 2) (dec_at lsk_274 (k := 1) rfl) rfl ?_
        refine u_imul (pc := 3) (dec_at lsk_274 (k := 2) rfl) ?_
        refine u_ld (v := iV (l7 - 100)) (pc := 4) (dec_at lsk_274 (k := 3) rfl) rfl ?_
        refine u_iadd (pc := 5) (dec_at lsk_274 (k := 4) rfl) ?_
        refine u_c (x := 40) (pc := 6) (dec_at lsk_274 (k := 5) rfl) rfl (by decide) ?_
        refine u_imul (pc := 8) (dec_at lsk_274 (k := 6) rfl) ?_
        refine u_ld (v := iV l9) (pc := 9) (dec_at lsk_274 (k := 7) rfl) rfl ?_
        refine u_iadd (pc := 10) (dec_at lsk_274 (k := 8) rfl) ?_
        refine u_rI (pc := 11) (dec_at lsk_274 (k := 9) rfl) rfl ?_
        have g15 := h.1
        have h := h.2
        have g16 := h.1
        have h := h.2
        refine u_lald (pc := 265) (dec_at lsk_278 (k := 147) rfl) sx_324 g15 g16 ?_
        refine u_ldc2 (x := 6000000000000000000) (pc := 266) (dec_at lsk_278 (k := 148) rfl) con_12_487 (by decide) ?_
        refine u_st (st' := [.int (lg_cmp (Int64.ofInt (u.1 324 ((((10 * l8) + (l7 - 100)) * 40) + l9))) (Int64.ofInt 6000000000000000000))]) (pc := 269) (dec_at lsk_278 (k := 149) rfl) rfl ?_
        have g17 := h.1
        have h := h.2
        refine u_ifT (pc := 270) (tgt := 277) (dec_at lsk_278 (k := 150) rfl) rfl (cl_eq g17 (by decide)) (fun e18 => ?_) (fun e18 => ?_)
        · have h := ifT e18 h
          refine u_ld (v := iV 0) (pc := 277) (dec_at lsk_278 (k := 153) rfl) rfl ?_
          refine u_sto (lv' := [.ref 271, iV l1, iV l2, .retAddr 0, iV l4, .retAddr 0, iV l6, iV l7, iV l8, iV l9, lV (u.1 342 ((40 * (l6 + 1)) + l9)), .retAddr 0, iV 0]) (pc := 278) (dec_at lsk_278 (k := 154) rfl) rfl ?_
          refine u_ld (v := iV 0) (pc := 280) (dec_at lsk_278 (k := 155) rfl) rfl ?_
          refine u_ifT (pc := 282) (tgt := 299) (dec_at lsk_278 (k := 156) rfl) rfl (c0_eq (by decide)) (fun _ => ?_) (fun e => absurd e (by decide))
          refine u_inc (lv' := [.ref 271, iV l1, iV l2, .retAddr 0, iV l4, .retAddr 0, iV l6, iV l7, iV l8, iV (l9 + 1), lV (u.1 342 ((40 * (l6 + 1)) + l9)), .retAddr 0, iV 0]) (pc := 299) (dec_at lsk_278 (k := 164) rfl) rfl (by decide) rfl ?_
          refine u_goto (pc := 302) (tgt := 182) (dec_at lsk_278 (k := 165) rfl) rfl ?_
          exact u_weak (sbK (sbK (sbK (sbK (sbK (sbK (sbK (sbK (sbK (sbK (sbD (sbK (sbD sb0))))))))))))) h
        · have h := ifF e18 h
          refine u_ld (v := iV 1) (pc := 273) (dec_at lsk_278 (k := 151) rfl) rfl ?_
          refine u_goto (pc := 274) (tgt := 278) (dec_at lsk_278 (k := 152) rfl) rfl ?_
          refine u_sto (lv' := [.ref 271, iV l1, iV l2, .retAddr 0, iV l4, .retAddr 0, iV l6, iV l7, iV l8, iV l9, lV (u.1 342 ((40 * (l6 + 1)) + l9)), .retAddr 0, iV 1]) (pc := 278) (dec_at lsk_278 (k := 154) rfl) rfl ?_
          refine u_ld (v := iV 1) (pc := 280) (dec_at lsk_278 (k := 155) rfl) rfl ?_
          refine u_ifT (pc := 282) (tgt := 299) (dec_at lsk_278 (k := 156) rfl) rfl (c0_eq (by decide)) (fun e => absurd e (by decide)) (fun _ => ?_)
          refine u_ld (v := .ref 271) (pc := 285) (dec_at lsk_278 (k := 157) rfl) rfl ?_
          refine u_ld (v := iV l6) (pc := 286) (dec_at lsk_278 (k := 158) rfl) rfl ?_
          refine u_ld (v := iV l8) (pc := 288) (dec_at lsk_278 (k := 159) rfl) rfl ?_
          refine u_ld (v := iV l9) (pc := 290) (dec_at lsk_278 (k := 160) rfl) rfl ?_
          refine u_ld (v := iV l7) (pc := 292) (dec_at lsk_278 (k := 161) rfl) rfl ?_
          refine u_ld (v := lV (u.1 342 ((40 * (l6 + 1)) + l9))) (pc := 294) (dec_at lsk_278 (k := 162) rfl) rfl ?_
          refine u_cvV (As := [iV l6, iV l8, iV l9, iV l7, lV (u.1 342 ((40 * (l6 + 1)) + l9))]) (rb := 271) (st2 := []) (pc := 296) (dec_at lsk_278 (k := 163) rfl) m_12_512 (Or.inl rfl) rfl (Nat.le_of_ble_eq_true rfl) sx_271 me_279 rfl h (fun u19 h => ?_)
          refine u_inc (lv' := [.ref 271, iV l1, iV l2, .retAddr 0, iV l4, .retAddr 0, iV l6, iV l7, iV l8, iV (l9 + 1), lV (u.1 342 ((40 * (l6 + 1)) + l9)), .retAddr 0, iV 1]) (pc := 299) (dec_at lsk_278 (k := 164) rfl) rfl (by decide) rfl ?_
          refine u_goto (pc := 302) (tgt := 182) (dec_at lsk_278 (k := 165) rfl) rfl ?_
          exact u_weak (sbK (sbK (sbK (sbK (sbK (sbK (sbK (sbK (sbK (sbK (sbD (sbK (sbD sb0))))))))))))) h
  · have h := ifF e3 h
    refine u_inc (lv' := [.ref 271, iV l1, iV l2, .retAddr 0, iV l4, .retAddr 0, iV l6, iV l7, iV (l8 + 1), iV l9, .retAddr 0, .retAddr 0, .retAddr 0]) (pc := 305) (dec_at lsk_278 (k := 166) rfl) rfl (by decide) rfl ?_
    refine u_goto (pc := 308) (tgt := 126) (dec_at lsk_278 (k := 167) rfl) rfl ?_
    exact u_weak (sbK (sbK (sbK (sbK (sbK (sbK (sbK (sbK (sbK (sbD (sbK (sbK (sbK sb0))))))))))))) h
/-- method 279 -/
def K_279 (d pc : Nat) (lv : ev_L) (st : List Value) (u : uS) (Q : uS → Prop) : Prop := okU d 12 12 false none prog_14_method_78_code (qV Q) pc lv st u
theorem e_279 {d : Nat} {Q : uS → Prop} {u : uS} {l1 l2 l3 l4 l5 : Int} (h : (rI l4) ∧ (if l4 < 100 then (K_279 (d + 1) 28 [.ref 271, iV l1, iV l2, iV l3, iV l4, .retAddr 0, .retAddr 0, .retAddr 0, .retAddr 0, .retAddr 0, .retAddr 0, .retAddr 0] [lV 1, lV l5] u Q) else ((0 ≤ (((10 * l2) + (l4 - 100)) * 40) + l3) ∧ (((((10 * l2) + (l4 - 100)) * 40) + l3 < 16000) ∧ (K_279 (d + 1) 28 [.ref 271, iV l1, iV l2, iV l3, iV l4, .retAddr 0, .retAddr 0, .retAddr 0, .retAddr 0, .retAddr 0, .retAddr 0, .retAddr 0] [lV (u.1 324 ((((10 * l2) + (l4 - 100)) * 40) + l3)), lV l5] u Q))))) : cV (d + 2) 279 [.ref 271, iV l1, iV l2, iV l3, iV l4, lV l5] u Q := by
  refine u_of me_279 (Nat.le_of_ble_eq_true rfl) ?_
  refine u_ld (v := lV l5) (pc := 0) (dec_at lsk_279 (k := 0) rfl) rfl ?_
  refine u_ld (v := iV l4) (pc := 2) (dec_at lsk_279 (k := 1) rfl) rfl ?_
  refine u_c (x := 100) (pc := 4) (dec_at lsk_279 (k := 2) rfl) rfl (by decide) ?_
  have g1 := h.1
  have h := h.2
  refine u_icF (pc := 6) (tgt := 13) (dec_at lsk_279 (k := 3) rfl) rfl (ci_ge g1 (by decide)) (fun e2 => ?_) (fun e2 => ?_)
  · have h := ifT e2 h
    refine u_cl (x := 1) (pc := 9) (dec_at lsk_279 (k := 4) rfl) rfl (by decide) ?_
    refine u_goto (pc := 10) (tgt := 28) (dec_at lsk_279 (k := 5) rfl) rfl ?_
    exact u_weak (sbK (sbK (sbK (sbK (sbK (sbD (sbK (sbK (sbK (sbK (sbK (sbK sb0)))))))))))) h
  · have h := ifF e2 h
    refine u_ld (v := .ref 271) (pc := 13) (dec_at lsk_279 (k := 6) rfl) rfl ?_
    refine u_gS (o := 53) (p := 324) (pc := 14) (dec_at lsk_279 (k := 7) rfl) f_12_169 sx_271 rfl rfl ?_
    refine u_ld (v := iV l2) (pc := 17) (dec_at lsk_279 (k := 8) rfl) rfl ?_
    refine u_ld (v := iV l4) (pc := 18) (dec_at lsk_279 (k := 9) rfl) rfl ?_
    refine u_c (x := 100) (pc := 20) (dec_at lsk_279 (k := 10) rfl) rfl (by decide) ?_
    refine u_isub (pc := 22) (dec_at lsk_279 (k := 11) rfl) ?_
    refine u_ld (v := iV l3) (pc := 23) (dec_at lsk_279 (k := 12) rfl) rfl ?_
    refine u_csI (As := [iV l2, iV (l4 - 100), iV l3]) (st2 := [.ref 324, lV l5]) (pc := 24) (dec_at lsk_279 (k := 13) rfl) m_12_494 (Or.inl rfl) rfl (Nat.le_of_ble_eq_true rfl) ?_ (fun _ _ h_ => h_)
    refine u_of me_274 (Nat.le_of_ble_eq_true rfl) ?_
    refine u_c (x := 10) (pc := 0) (dec_at lsk_274 (k := 0) rfl) rfl (by decide) ?_
    refine u_ld (v := iV l2) (pc := 2) (dec_at lsk_274 (k := 1) rfl) rfl ?_
    refine u_imul (pc := 3) (dec_at lsk_274 (k := 2) rfl) ?_
    refine u_ld (v := iV (l4 - 100)) (pc := 4) (dec_at lsk_274 (k := 3) rfl) rfl ?_
    refine u_iadd (pc := 5) (dec_at lsk_274 (k := 4) rfl) ?_
    refine u_c (x := 40) (pc := 6) (dec_at lsk_274 (k := 5) rfl) rfl (by decide) ?_
    refine u_imul (pc := 8) (dec_at lsk_274 (k := 6) rfl) ?_
    refine u_ld (v := iV l3) (pc := 9) (dec_at lsk_274 (k := 7) rfl) rfl ?_
    refine u_iadd (pc := 10) (dec_at lsk_274 (k := 8) rfl) ?_
    refine u_rI (pc := 11) (dec_at lsk_274 (k := 9) rfl) rfl ?_
    have g3 := h.1
    have h := h.2
    have g4 := h.1
    have h := h.2
    refine u_lald (pc := 27) (dec_at lsk_279 (k := 14) rfl) sx_324 g3 g4 ?_
    exact u_weak (sbK (sbK (sbK (sbK (sbK (sbD (sbK (sbK (sbK (sbK (sbK (sbK sb0)))))))))))) h
theorem k_279_28 {d : Nat} {Q : uS → Prop} {u : uS} {l1 l2 l3 l4 s0 s1 : Int} (h : (cn 5000000000000000000 s0) ∧ ((cn 5000000000000000000 s1) ∧ ((0 ≤ (40 * (l1 + 1)) + l3) ∧ (((40 * (l1 + 1)) + l3 < 280) ∧ ((rI l4) ∧ (if l4 < 100 then ((rI (u.1 343 ((40 * (l1 + 1)) + l3))) ∧ (if u.1 343 ((40 * (l1 + 1)) + l3) < 0 then (K_279 (d + 1) 90 [.ref 271, iV l1, iV l2, iV l3, .retAddr 0, .retAddr 0, .retAddr 0, lV (pl 5000000000000000000 s0 s1), .retAddr 0, .retAddr 0, iV 0, .retAddr 0] [iV 0] u Q) else (K_279 (d + 1) 90 [.ref 271, iV l1, iV l2, iV l3, .retAddr 0, .retAddr 0, .retAddr 0, lV (pl 5000000000000000000 s0 s1), .retAddr 0, .retAddr 0, iV 0, .retAddr 0] [iV (u.1 343 ((40 * (l1 + 1)) + l3))] u Q))) else ((0 ≤ (((10 * l2) + (l4 - 100)) * 40) + l3) ∧ (((((10 * l2) + (l4 - 100)) * 40) + l3 < 16000) ∧ ((rI (u.1 325 ((((10 * l2) + (l4 - 100)) * 40) + l3))) ∧ ((rI (u.1 343 ((40 * (l1 + 1)) + l3))) ∧ (if u.1 343 ((40 * (l1 + 1)) + l3) < u.1 325 ((((10 * l2) + (l4 - 100)) * 40) + l3) then (K_279 (d + 1) 90 [.ref 271, iV l1, iV l2, iV l3, .retAddr 0, .retAddr 0, .retAddr 0, lV (pl 5000000000000000000 s0 s1), .retAddr 0, .retAddr 0, iV (u.1 325 ((((10 * l2) + (l4 - 100)) * 40) + l3)), .retAddr 0] [iV (u.1 325 ((((10 * l2) + (l4 - 100)) * 40) + l3))] u Q) else (K_279 (d + 1) 90 [.ref 271, iV l1, iV l2, iV l3, .retAddr 0, .retAddr 0, .retAddr 0, lV (pl 5000000000000000000 s0 s1), .retAddr 0, .retAddr 0, iV (u.1 325 ((((10 * l2) + (l4 - 100)) * 40) + l3)), .retAddr 0] [iV (u.1 343 ((40 * (l1 + 1)) + l3))] u Q)))))))))))) : K_279 (d + 1) 28 [.ref 271, iV l1, iV l2, iV l3, iV l4, .retAddr 0, .retAddr 0, .retAddr 0, .retAddr 0, .retAddr 0, .retAddr 0, .retAddr 0] [lV s1, lV s0] u Q := by
  unfold K_279
  have g1 := h.1
  have h := h.2
  have g2 := h.1
  have h := h.2
  refine u_csL (As := [lV s0, lV s1]) (st2 := []) (pc := 28) (dec_at lsk_279 (k := 15) rfl) m_12_323 (Or.inl rfl) rfl (Nat.le_of_ble_eq_true rfl) (p_217 g1 g2) (fun r_ u_ h_ => ?_)
  rw [h_.1, h_.2]
  refine u_sto (lv' := [.ref 271, iV l1, iV l2, iV l3, iV l4, .retAddr 0, .retAddr 0, lV (pl 5000000000000000000 s0 s1), .retAddr 0, .retAddr 0, .retAddr 0, .retAddr 0]) (pc := 31) (dec_at lsk_279 (k := 16) rfl) rfl ?_
  refine u_ld (v := .ref 271) (pc := 33) (dec_at lsk_279 (k := 17) rfl) rfl ?_
  refine u_gS (o := 72) (p := 343) (pc := 34) (dec_at lsk_279 (k := 18) rfl) f_12_229 sx_271 rfl rfl ?_
  refine u_c (x := 40) (pc := 37) (dec_at lsk_279 (k := 19) rfl) rfl (by decide) ?_
  refine u_ld (v := iV l1) (pc := 39) (dec_at lsk_279 (k := 20) rfl) rfl ?_
  refine u_ld (v := iV 1) (pc := 40) (dec_at lsk_279 (k := 21) rfl) rfl ?_
  refine u_iadd (pc := 41) (dec_at lsk_279 (k := 22) rfl) ?_
  refine u_imul (pc := 42) (dec_at lsk_279 (k := 23) rfl) ?_
  refine u_ld (v := iV l3) (pc := 43) (dec_at lsk_279 (k := 24) rfl) rfl ?_
  refine u_iadd (pc := 44) (dec_at lsk_279 (k := 25) rfl) ?_
  have g3 := h.1
  have h := h.2
  have g4 := h.1
  have h := h.2
  refine u_iald (pc := 45) (dec_at lsk_279 (k := 26) rfl) sx_343 g3 g4 ?_
  refine u_sto (lv' := [.ref 271, iV l1, iV l2, iV l3, iV l4, .retAddr 0, .retAddr 0, lV (pl 5000000000000000000 s0 s1), .retAddr 0, iV (u.1 343 ((40 * (l1 + 1)) + l3)), .retAddr 0, .retAddr 0]) (pc := 46) (dec_at lsk_279 (k := 27) rfl) rfl ?_
  refine u_ld (v := iV l4) (pc := 48) (dec_at lsk_279 (k := 28) rfl) rfl ?_
  refine u_c (x := 100) (pc := 50) (dec_at lsk_279 (k := 29) rfl) rfl (by decide) ?_
  have g5 := h.1
  have h := h.2
  refine u_icF (pc := 52) (tgt := 59) (dec_at lsk_279 (k := 30) rfl) rfl (ci_ge g5 (by decide)) (fun e6 => ?_) (fun e6 => ?_)
  · have h := ifT e6 h
    refine u_ld (v := iV 0) (pc := 55) (dec_at lsk_279 (k := 31) rfl) rfl ?_
    refine u_goto (pc := 56) (tgt := 74) (dec_at lsk_279 (k := 32) rfl) rfl ?_
    refine u_sto (lv' := [.ref 271, iV l1, iV l2, iV l3, iV l4, .retAddr 0, .retAddr 0, lV (pl 5000000000000000000 s0 s1), .retAddr 0, iV (u.1 343 ((40 * (l1 + 1)) + l3)), iV 0, .retAddr 0]) (pc := 74) (dec_at lsk_279 (k := 42) rfl) rfl ?_
    refine u_ld (v := iV 0) (pc := 76) (dec_at lsk_279 (k := 43) rfl) rfl ?_
    refine u_ld (v := iV (u.1 343 ((40 * (l1 + 1)) + l3))) (pc := 78) (dec_at lsk_279 (k := 44) rfl) rfl ?_
    have g7 := h.1
    have h := h.2
    refine u_icF (pc := 80) (tgt := 88) (dec_at lsk_279 (k := 45) rfl) rfl (ci_le (by decide) g7) (fun e8 => ?_) (fun e8 => ?_)
    · have h := ifT e8 h
      refine u_ld (v := iV 0) (pc := 83) (dec_at lsk_279 (k := 46) rfl) rfl ?_
      refine u_goto (pc := 85) (tgt := 90) (dec_at lsk_279 (k := 47) rfl) rfl ?_
      exact u_weak (sbK (sbK (sbK (sbK (sbD (sbK (sbK (sbK (sbK (sbD (sbK (sbK sb0)))))))))))) h
    · have h := ifF e8 h
      refine u_ld (v := iV (u.1 343 ((40 * (l1 + 1)) + l3))) (pc := 88) (dec_at lsk_279 (k := 48) rfl) rfl ?_
      exact u_weak (sbK (sbK (sbK (sbK (sbD (sbK (sbK (sbK (sbK (sbD (sbK (sbK sb0)))))))))))) h
  · have h := ifF e6 h
    refine u_ld (v := .ref 271) (pc := 59) (dec_at lsk_279 (k := 33) rfl) rfl ?_
    refine u_gS (o := 54) (p := 325) (pc := 60) (dec_at lsk_279 (k := 34) rfl) f_12_172 sx_271 rfl rfl ?_
    refine u_ld (v := iV l2) (pc := 63) (dec_at lsk_279 (k := 35) rfl) rfl ?_
    refine u_ld (v := iV l4) (pc := 64) (dec_at lsk_279 (k := 36) rfl) rfl ?_
    refine u_c (x := 100) (pc := 66) (dec_at lsk_279 (k := 37) rfl) rfl (by decide) ?_
    refine u_isub (pc := 68) (dec_at lsk_279 (k := 38) rfl) ?_
    refine u_ld (v := iV l3) (pc := 69) (dec_at lsk_279 (k := 39) rfl) rfl ?_
    refine u_csI (As := [iV l2, iV (l4 - 100), iV l3]) (st2 := [.ref 325]) (pc := 70) (dec_at lsk_279 (k := 40) rfl) m_12_494 (Or.inl rfl) rfl (Nat.le_of_ble_eq_true rfl) ?_ (fun _ _ h_ => h_)
    refine u_of me_274 (Nat.le_of_ble_eq_true rfl) ?_
    refine u_c (x := 10) (pc := 0) (dec_at lsk_274 (k := 0) rfl) rfl (by decide) ?_
    refine u_ld (v := iV l2) (pc := 2) (dec_at lsk_274 (k := 1) rfl) rfl ?_
    refine u_imul (pc := 3) (dec_at lsk_274 (k := 2) rfl) ?_
    refine u_ld (v := iV (l4 - 100)) (pc := 4) (dec_at lsk_274 (k := 3) rfl) rfl ?_
    refine u_iadd (pc := 5) (dec_at lsk_274 (k := 4) rfl) ?_
    refine u_c (x := 40) (pc := 6) (dec_at lsk_274 (k := 5) rfl) rfl (by decide) ?_
    refine u_imul (pc := 8) (dec_at lsk_274 (k := 6) rfl) ?_
    refine u_ld (v := iV l3) (pc := 9) (dec_at lsk_274 (k := 7) rfl) rfl ?_
    refine u_iadd (pc := 10) (dec_at lsk_274 (k := 8) rfl) ?_
    refine u_rI (pc := 11) (dec_at lsk_274 (k := 9) rfl) rfl ?_
    have g9 := h.1
    have h := h.2
    have g10 := h.1
    have h := h.2
    refine u_iald (pc := 73) (dec_at lsk_279 (k := 41) rfl) sx_325 g9 g10 ?_
    refine u_sto (lv' := [.ref 271, iV l1, iV l2, iV l3, iV l4, .retAddr 0, .retAddr 0, lV (pl 5000000000000000000 s0 s1), .retAddr 0, iV (u.1 343 ((40 * (l1 + 1)) + l3)), iV (u.1 325 ((((10 * l2) + (l4 - 100)) * 40) + l3)), .retAddr 0]) (pc := 74) (dec_at lsk_279 (k := 42) rfl) rfl ?_
    refine u_ld (v := iV (u.1 325 ((((10 * l2) + (l4 - 100)) * 40) + l3))) (pc := 76) (dec_at lsk_279 (k := 43) rfl) rfl ?_
    refine u_ld (v := iV (u.1 343 ((40 * (l1 + 1)) + l3))) (pc := 78) (dec_at lsk_279 (k := 44) rfl) rfl ?_
    have g11 := h.1
    have h := h.2
    have g12 := h.1
    have h := h.2
    refine u_icF (pc := 80) (tgt := 88) (dec_at lsk_279 (k := 45) rfl) rfl (ci_le g11 g12) (fun e13 => ?_) (fun e13 => ?_)
    · have h := ifT e13 h
      refine u_ld (v := iV (u.1 325 ((((10 * l2) + (l4 - 100)) * 40) + l3))) (pc := 83) (dec_at lsk_279 (k := 46) rfl) rfl ?_
      refine u_goto (pc := 85) (tgt := 90) (dec_at lsk_279 (k := 47) rfl) rfl ?_
      exact u_weak (sbK (sbK (sbK (sbK (sbD (sbK (sbK (sbK (sbK (sbD (sbK (sbK sb0)))))))))))) h
    · have h := ifF e13 h
      refine u_ld (v := iV (u.1 343 ((40 * (l1 + 1)) + l3))) (pc := 88) (dec_at lsk_279 (k := 48) rfl) rfl ?_
      exact u_weak (sbK (sbK (sbK (sbK (sbD (sbK (sbK (sbK (sbK (sbD (sbK (sbK sb0)))))))))))) h
theorem k_279_90 {d : Nat} {Q : uS → Prop} {u : uS} {l1 l2 l3 l7 l10 s0 : Int} (h : (0 ≤ (40 * (l1 + 1)) + l3) ∧ (((40 * (l1 + 1)) + l3 < 280) ∧ ((rI l10) ∧ ((rI (u.1 344 ((40 * (l1 + 1)) + l3))) ∧ (if u.1 344 ((40 * (l1 + 1)) + l3) < l10 then ((0 ≤ (40 * l1) + l2) ∧ (((40 * l1) + l2 < 280) ∧ ((rI (u.1 344 ((40 * l1) + l2))) ∧ (if l10 < u.1 344 ((40 * l1) + l2) then (K_279 (d + 1) 165 [.ref 271, iV l1, iV l2, .retAddr 0, .retAddr 0, .retAddr 0, .retAddr 0, lV l7, .retAddr 0, iV s0, .retAddr 0, .retAddr 0] [iV l10, iV ((40 * l1) + l2), .ref 344] u Q) else (K_279 (d + 1) 165 [.ref 271, iV l1, iV l2, .retAddr 0, .retAddr 0, .retAddr 0, .retAddr 0, lV l7, .retAddr 0, iV s0, .retAddr 0, .retAddr 0] [iV (u.1 344 ((40 * l1) + l2)), iV ((40 * l1) + l2), .ref 344] u Q))))) else ((0 ≤ (40 * l1) + l2) ∧ (((40 * l1) + l2 < 280) ∧ ((rI (u.1 344 ((40 * l1) + l2))) ∧ (if u.1 344 ((40 * (l1 + 1)) + l3) < u.1 344 ((40 * l1) + l2) then (K_279 (d + 1) 165 [.ref 271, iV l1, iV l2, .retAddr 0, .retAddr 0, .retAddr 0, .retAddr 0, lV l7, .retAddr 0, iV s0, .retAddr 0, .retAddr 0] [iV (u.1 344 ((40 * (l1 + 1)) + l3)), iV ((40 * l1) + l2), .ref 344] u Q) else (K_279 (d + 1) 165 [.ref 271, iV l1, iV l2, .retAddr 0, .retAddr 0, .retAddr 0, .retAddr 0, lV l7, .retAddr 0, iV s0, .retAddr 0, .retAddr 0] [iV (u.1 344 ((40 * l1) + l2)), iV ((40 * l1) + l2), .ref 344] u Q)))))))))) : K_279 (d + 1) 90 [.ref 271, iV l1, iV l2, iV l3, .retAddr 0, .retAddr 0, .retAddr 0, lV l7, .retAddr 0, .retAddr 0, iV l10, .retAddr 0] [iV s0] u Q := by
  unfold K_279
  refine u_sto (lv' := [.ref 271, iV l1, iV l2, iV l3, .retAddr 0, .retAddr 0, .retAddr 0, lV l7, .retAddr 0, iV s0, iV l10, .retAddr 0]) (pc := 90) (dec_at lsk_279 (k := 49) rfl) rfl ?_
  refine u_ld (v := .ref 271) (pc := 92) (dec_at lsk_279 (k := 50) rfl) rfl ?_
  refine u_gS (o := 73) (p := 344) (pc := 93) (dec_at lsk_279 (k := 51) rfl) f_12_232 sx_271 rfl rfl ?_
  refine u_c (x := 40) (pc := 96) (dec_at lsk_279 (k := 52) rfl) rfl (by decide) ?_
  refine u_ld (v := iV l1) (pc := 98) (dec_at lsk_279 (k := 53) rfl) rfl ?_
  refine u_ld (v := iV 1) (pc := 99) (dec_at lsk_279 (k := 54) rfl) rfl ?_
  refine u_iadd (pc := 100) (dec_at lsk_279 (k := 55) rfl) ?_
  refine u_imul (pc := 101) (dec_at lsk_279 (k := 56) rfl) ?_
  refine u_ld (v := iV l3) (pc := 102) (dec_at lsk_279 (k := 57) rfl) rfl ?_
  refine u_iadd (pc := 103) (dec_at lsk_279 (k := 58) rfl) ?_
  have g1 := h.1
  have h := h.2
  have g2 := h.1
  have h := h.2
  refine u_iald (pc := 104) (dec_at lsk_279 (k := 59) rfl) sx_344 g1 g2 ?_
  refine u_sto (lv' := [.ref 271, iV l1, iV l2, iV l3, .retAddr 0, .retAddr 0, .retAddr 0, lV l7, .retAddr 0, iV s0, iV l10, iV (u.1 344 ((40 * (l1 + 1)) + l3))]) (pc := 105) (dec_at lsk_279 (k := 60) rfl) rfl ?_
  refine u_ld (v := iV l10) (pc := 107) (dec_at lsk_279 (k := 61) rfl) rfl ?_
  refine u_ld (v := iV (u.1 344 ((40 * (l1 + 1)) + l3))) (pc := 109) (dec_at lsk_279 (k := 62) rfl) rfl ?_
  have g3 := h.1
  have h := h.2
  have g4 := h.1
  have h := h.2
  refine u_icF (pc := 111) (tgt := 119) (dec_at lsk_279 (k := 63) rfl) rfl (ci_le g3 g4) (fun e5 => ?_) (fun e5 => ?_)
  · have h := ifT e5 h
    refine u_ld (v := iV l10) (pc := 114) (dec_at lsk_279 (k := 64) rfl) rfl ?_
    refine u_goto (pc := 116) (tgt := 121) (dec_at lsk_279 (k := 65) rfl) rfl ?_
    refine u_sto (lv' := [.ref 271, iV l1, iV l2, iV l3, .retAddr 0, .retAddr 0, .retAddr 0, lV l7, .retAddr 0, iV s0, iV l10, iV l10]) (pc := 121) (dec_at lsk_279 (k := 67) rfl) rfl ?_
    refine u_ld (v := .ref 271) (pc := 123) (dec_at lsk_279 (k := 68) rfl) rfl ?_
    refine u_gS (o := 73) (p := 344) (pc := 124) (dec_at lsk_279 (k := 69) rfl) f_12_232 sx_271 rfl rfl ?_
    refine u_c (x := 40) (pc := 127) (dec_at lsk_279 (k := 70) rfl) rfl (by decide) ?_
    refine u_ld (v := iV l1) (pc := 129) (dec_at lsk_279 (k := 71) rfl) rfl ?_
    refine u_imul (pc := 130) (dec_at lsk_279 (k := 72) rfl) ?_
    refine u_ld (v := iV l2) (pc := 131) (dec_at lsk_279 (k := 73) rfl) rfl ?_
    refine u_iadd (pc := 132) (dec_at lsk_279 (k := 74) rfl) ?_
    refine u_ld (v := iV l10) (pc := 133) (dec_at lsk_279 (k := 75) rfl) rfl ?_
    refine u_ld (v := .ref 271) (pc := 135) (dec_at lsk_279 (k := 76) rfl) rfl ?_
    refine u_gS (o := 73) (p := 344) (pc := 136) (dec_at lsk_279 (k := 77) rfl) f_12_232 sx_271 rfl rfl ?_
    refine u_c (x := 40) (pc := 139) (dec_at lsk_279 (k := 78) rfl) rfl (by decide) ?_
    refine u_ld (v := iV l1) (pc := 141) (dec_at lsk_279 (k := 79) rfl) rfl ?_
    refine u_imul (pc := 142) (dec_at lsk_279 (k := 80) rfl) ?_
    refine u_ld (v := iV l2) (pc := 143) (dec_at lsk_279 (k := 81) rfl) rfl ?_
    refine u_iadd (pc := 144) (dec_at lsk_279 (k := 82) rfl) ?_
    have g6 := h.1
    have h := h.2
    have g7 := h.1
    have h := h.2
    refine u_iald (pc := 145) (dec_at lsk_279 (k := 83) rfl) sx_344 g6 g7 ?_
    have g8 := h.1
    have h := h.2
    refine u_icF (pc := 146) (tgt := 154) (dec_at lsk_279 (k := 84) rfl) rfl (ci_ge g3 g8) (fun e9 => ?_) (fun e9 => ?_)
    · have h := ifT e9 h
      refine u_ld (v := iV l10) (pc := 149) (dec_at lsk_279 (k := 85) rfl) rfl ?_
      refine u_goto (pc := 151) (tgt := 165) (dec_at lsk_279 (k := 86) rfl) rfl ?_
      exact u_weak (sbK (sbK (sbK (sbD (sbK (sbK (sbK (sbK (sbK (sbK (sbD (sbD sb0)))))))))))) h
    · have h := ifF e9 h
      refine u_ld (v := .ref 271) (pc := 154) (dec_at lsk_279 (k := 87) rfl) rfl ?_
      refine u_gS (o := 73) (p := 344) (pc := 155) (dec_at lsk_279 (k := 88) rfl) f_12_232 sx_271 rfl rfl ?_
      refine u_c (x := 40) (pc := 158) (dec_at lsk_279 (k := 89) rfl) rfl (by decide) ?_
      refine u_ld (v := iV l1) (pc := 160) (dec_at lsk_279 (k := 90) rfl) rfl ?_
      refine u_imul (pc := 161) (dec_at lsk_279 (k := 91) rfl) ?_
      refine u_ld (v := iV l2) (pc := 162) (dec_at lsk_279 (k := 92) rfl) rfl ?_
      refine u_iadd (pc := 163) (dec_at lsk_279 (k := 93) rfl) ?_
      refine u_iald (pc := 164) (dec_at lsk_279 (k := 94) rfl) sx_344 g6 g7 ?_
      exact u_weak (sbK (sbK (sbK (sbD (sbK (sbK (sbK (sbK (sbK (sbK (sbD (sbD sb0)))))))))))) h
  · have h := ifF e5 h
    refine u_ld (v := iV (u.1 344 ((40 * (l1 + 1)) + l3))) (pc := 119) (dec_at lsk_279 (k := 66) rfl) rfl ?_
    refine u_sto (lv' := [.ref 271, iV l1, iV l2, iV l3, .retAddr 0, .retAddr 0, .retAddr 0, lV l7, .retAddr 0, iV s0, iV l10, iV (u.1 344 ((40 * (l1 + 1)) + l3))]) (pc := 121) (dec_at lsk_279 (k := 67) rfl) rfl ?_
    refine u_ld (v := .ref 271) (pc := 123) (dec_at lsk_279 (k := 68) rfl) rfl ?_
    refine u_gS (o := 73) (p := 344) (pc := 124) (dec_at lsk_279 (k := 69) rfl) f_12_232 sx_271 rfl rfl ?_
    refine u_c (x := 40) (pc := 127) (dec_at lsk_279 (k := 70) rfl) rfl (by decide) ?_
    refine u_ld (v := iV l1) (pc := 129) (dec_at lsk_279 (k := 71) rfl) rfl ?_
    refine u_imul (pc := 130) (dec_at lsk_279 (k := 72) rfl) ?_
    refine u_ld (v := iV l2) (pc := 131) (dec_at lsk_279 (k := 73) rfl) rfl ?_
    refine u_iadd (pc := 132) (dec_at lsk_279 (k := 74) rfl) ?_
    refine u_ld (v := iV (u.1 344 ((40 * (l1 + 1)) + l3))) (pc := 133) (dec_at lsk_279 (k := 75) rfl) rfl ?_
    refine u_ld (v := .ref 271) (pc := 135) (dec_at lsk_279 (k := 76) rfl) rfl ?_
    refine u_gS (o := 73) (p := 344) (pc := 136) (dec_at lsk_279 (k := 77) rfl) f_12_232 sx_271 rfl rfl ?_
    refine u_c (x := 40) (pc := 139) (dec_at lsk_279 (k := 78) rfl) rfl (by decide) ?_
    refine u_ld (v := iV l1) (pc := 141) (dec_at lsk_279 (k := 79) rfl) rfl ?_
    refine u_imul (pc := 142) (dec_at lsk_279 (k := 80) rfl) ?_
    refine u_ld (v := iV l2) (pc := 143) (dec_at lsk_279 (k := 81) rfl) rfl ?_
    refine u_iadd (pc := 144) (dec_at lsk_279 (k := 82) rfl) ?_
    have g10 := h.1
    have h := h.2
    have g11 := h.1
    have h := h.2
    refine u_iald (pc := 145) (dec_at lsk_279 (k := 83) rfl) sx_344 g10 g11 ?_
    have g12 := h.1
    have h := h.2
    refine u_icF (pc := 146) (tgt := 154) (dec_at lsk_279 (k := 84) rfl) rfl (ci_ge g4 g12) (fun e13 => ?_) (fun e13 => ?_)
    · have h := ifT e13 h
      refine u_ld (v := iV (u.1 344 ((40 * (l1 + 1)) + l3))) (pc := 149) (dec_at lsk_279 (k := 85) rfl) rfl ?_
      refine u_goto (pc := 151) (tgt := 165) (dec_at lsk_279 (k := 86) rfl) rfl ?_
      exact u_weak (sbK (sbK (sbK (sbD (sbK (sbK (sbK (sbK (sbK (sbK (sbD (sbD sb0)))))))))))) h
    · have h := ifF e13 h
      refine u_ld (v := .ref 271) (pc := 154) (dec_at lsk_279 (k := 87) rfl) rfl ?_
      refine u_gS (o := 73) (p := 344) (pc := 155) (dec_at lsk_279 (k := 88) rfl) f_12_232 sx_271 rfl rfl ?_
      refine u_c (x := 40) (pc := 158) (dec_at lsk_279 (k := 89) rfl) rfl (by decide) ?_
      refine u_ld (v := iV l1) (pc := 160) (dec_at lsk_279 (k := 90) rfl) rfl ?_
      refine u_imul (pc := 161) (dec_at lsk_279 (k := 91) rfl) ?_
      refine u_ld (v := iV l2) (pc := 162) (dec_at lsk_279 (k := 92) rfl) rfl ?_
      refine u_iadd (pc := 163) (dec_at lsk_279 (k := 93) rfl) ?_
      refine u_iald (pc := 164) (dec_at lsk_279 (k := 94) rfl) sx_344 g10 g11 ?_
      exact u_weak (sbK (sbK (sbK (sbD (sbK (sbK (sbK (sbK (sbK (sbK (sbD (sbD sb0)))))))))))) h
theorem k_279_165 {d : Nat} {Q : uS → Prop} {u : uS} {s0 : Nat} {l1 l2 l7 l9 s1 s2 : Int} {ns0 : Nat} (hAs0 : isA s0 0 ns0) (h : (0 ≤ s1) ∧ ((s1 < (ns0 : Int)) ∧ (∀ u3 : uS, u3 = wr u s0 s1 s2 → ((0 ≤ (40 * l1) + l2) ∧ (((40 * l1) + l2 < 280) ∧ ((rL l7) ∧ ((rL (u3.1 342 ((40 * l1) + l2))) ∧ (if l7 < u3.1 342 ((40 * l1) + l2) then (∀ u10 : uS, u10 = wr u3 342 ((40 * l1) + l2) l7 → (∀ u12 : uS, u12 = wr u10 343 ((40 * l1) + l2) l9 → (Q u12))) else (if l7 = u3.1 342 ((40 * l1) + l2) then ((rI l9) ∧ ((rI (u3.1 343 ((40 * l1) + l2))) ∧ (if l9 < u3.1 343 ((40 * l1) + l2) then (∀ u18 : uS, u18 = wr u3 342 ((40 * l1) + l2) l7 → (∀ u20 : uS, u20 = wr u18 343 ((40 * l1) + l2) l9 → (Q u20))) else (Q u3)))) else (Q u3)))))))))) : K_279 (d + 1) 165 [.ref 271, iV l1, iV l2, .retAddr 0, .retAddr 0, .retAddr 0, .retAddr 0, lV l7, .retAddr 0, iV l9, .retAddr 0, .retAddr 0] [iV s2, iV s1, .ref s0] u Q := by
  unfold K_279
  have g1 := h.1
  have h := h.2
  have g2 := h.1
  have h := h.2
  refine u_iast (pc := 165) (dec_at lsk_279 (k := 95) rfl) hAs0 g1 g2 (fun u3 e4 => ?_)
  have h := h u3 e4
  refine u_ld (v := lV l7) (pc := 166) (dec_at lsk_279 (k := 96) rfl) rfl ?_
  refine u_ld (v := iV l9) (pc := 168) (dec_at lsk_279 (k := 97) rfl) rfl ?_
  refine u_ld (v := .ref 271) (pc := 170) (dec_at lsk_279 (k := 98) rfl) rfl ?_
  refine u_gS (o := 71) (p := 342) (pc := 171) (dec_at lsk_279 (k := 99) rfl) f_12_226 sx_271 rfl rfl ?_
  refine u_c (x := 40) (pc := 174) (dec_at lsk_279 (k := 100) rfl) rfl (by decide) ?_
  refine u_ld (v := iV l1) (pc := 176) (dec_at lsk_279 (k := 101) rfl) rfl ?_
  refine u_imul (pc := 177) (dec_at lsk_279 (k := 102) rfl) ?_
  refine u_ld (v := iV l2) (pc := 178) (dec_at lsk_279 (k := 103) rfl) rfl ?_
  refine u_iadd (pc := 179) (dec_at lsk_279 (k := 104) rfl) ?_
  have g5 := h.1
  have h := h.2
  have g6 := h.1
  have h := h.2
  refine u_lald (pc := 180) (dec_at lsk_279 (k := 105) rfl) sx_342 g5 g6 ?_
  refine u_ld (v := .ref 271) (pc := 181) (dec_at lsk_279 (k := 106) rfl) rfl ?_
  refine u_gS (o := 72) (p := 343) (pc := 182) (dec_at lsk_279 (k := 107) rfl) f_12_229 sx_271 rfl rfl ?_
  refine u_c (x := 40) (pc := 185) (dec_at lsk_279 (k := 108) rfl) rfl (by decide) ?_
  refine u_ld (v := iV l1) (pc := 187) (dec_at lsk_279 (k := 109) rfl) rfl ?_
  refine u_imul (pc := 188) (dec_at lsk_279 (k := 110) rfl) ?_
  refine u_ld (v := iV l2) (pc := 189) (dec_at lsk_279 (k := 111) rfl) rfl ?_
  refine u_iadd (pc := 190) (dec_at lsk_279 (k := 112) rfl) ?_
  refine u_iald (pc := 191) (dec_at lsk_279 (k := 113) rfl) sx_343 g5 g6 ?_
  refine u_csI (As := [lV l7, iV l9, lV (u3.1 342 ((40 * l1) + l2)), iV (u3.1 343 ((40 * l1) + l2))]) (st2 := []) (pc := 192) (dec_at lsk_279 (k := 114) rfl) m_12_497 (Or.inl rfl) rfl (Nat.le_of_ble_eq_true rfl) ?_ (fun _ _ h_ => h_)
  refine u_of me_273 (Nat.le_of_ble_eq_true rfl) ?_
  refine u_ld (v := lV l7) (pc := 0) (dec_at lsk_273 (k := 0) rfl) rfl ?_
  refine u_ld (v := lV (u3.1 342 ((40 * l1) + l2))) (pc := 1) (dec_at lsk_273 (k := 1) rfl) rfl ?_
  refine u_st (st' := [.int (lg_cmp (Int64.ofInt l7) (Int64.ofInt (u3.1 342 ((40 * l1) + l2))))]) (pc := 2) (dec_at lsk_273 (k := 2) rfl) rfl ?_
  have g7 := h.1
  have h := h.2
  have g8 := h.1
  have h := h.2
  refine u_ifT (pc := 3) (tgt := 18) (dec_at lsk_273 (k := 3) rfl) rfl (cl_lt g7 g8) (fun e9 => ?_) (fun e9 => ?_)
  · have h := ifT e9 h
    refine u_ld (v := iV 1) (pc := 18) (dec_at lsk_273 (k := 11) rfl) rfl ?_
    refine u_goto (pc := 19) (tgt := 23) (dec_at lsk_273 (k := 12) rfl) rfl ?_
    refine u_rZ (pc := 23) (dec_at lsk_273 (k := 14) rfl) rfl (by decide) ?_
    refine u_ifT (pc := 195) (tgt := 224) (dec_at lsk_279 (k := 115) rfl) rfl (c0_eq (by decide)) (fun e => absurd e (by decide)) (fun _ => ?_)
    refine u_ld (v := .ref 271) (pc := 198) (dec_at lsk_279 (k := 116) rfl) rfl ?_
    refine u_gS (o := 71) (p := 342) (pc := 199) (dec_at lsk_279 (k := 117) rfl) f_12_226 sx_271 rfl rfl ?_
    refine u_c (x := 40) (pc := 202) (dec_at lsk_279 (k := 118) rfl) rfl (by decide) ?_
    refine u_ld (v := iV l1) (pc := 204) (dec_at lsk_279 (k := 119) rfl) rfl ?_
    refine u_imul (pc := 205) (dec_at lsk_279 (k := 120) rfl) ?_
    refine u_ld (v := iV l2) (pc := 206) (dec_at lsk_279 (k := 121) rfl) rfl ?_
    refine u_iadd (pc := 207) (dec_at lsk_279 (k := 122) rfl) ?_
    refine u_ld (v := lV l7) (pc := 208) (dec_at lsk_279 (k := 123) rfl) rfl ?_
    refine u_last (pc := 210) (dec_at lsk_279 (k := 124) rfl) sx_342 g5 g6 (fun u10 e11 => ?_)
    have h := h u10 e11
    refine u_ld (v := .ref 271) (pc := 211) (dec_at lsk_279 (k := 125) rfl) rfl ?_
    refine u_gS (o := 72) (p := 343) (pc := 212) (dec_at lsk_279 (k := 126) rfl) f_12_229 sx_271 rfl rfl ?_
    refine u_c (x := 40) (pc := 215) (dec_at lsk_279 (k := 127) rfl) rfl (by decide) ?_
    refine u_ld (v := iV l1) (pc := 217) (dec_at lsk_279 (k := 128) rfl) rfl ?_
    refine u_imul (pc := 218) (dec_at lsk_279 (k := 129) rfl) ?_
    refine u_ld (v := iV l2) (pc := 219) (dec_at lsk_279 (k := 130) rfl) rfl ?_
    refine u_iadd (pc := 220) (dec_at lsk_279 (k := 131) rfl) ?_
    refine u_ld (v := iV l9) (pc := 221) (dec_at lsk_279 (k := 132) rfl) rfl ?_
    refine u_iast (pc := 223) (dec_at lsk_279 (k := 133) rfl) sx_343 g5 g6 (fun u12 e13 => ?_)
    have h := h u12 e13
    exact u_rV (pc := 224) (dec_at lsk_279 (k := 134) rfl) rfl h
  · have h := ifF e9 h
    refine u_ld (v := lV l7) (pc := 6) (dec_at lsk_273 (k := 4) rfl) rfl ?_
    refine u_ld (v := lV (u3.1 342 ((40 * l1) + l2))) (pc := 7) (dec_at lsk_273 (k := 5) rfl) rfl ?_
    refine u_st (st' := [.int (lg_cmp (Int64.ofInt l7) (Int64.ofInt (u3.1 342 ((40 * l1) + l2))))]) (pc := 8) (dec_at lsk_273 (k := 6) rfl) rfl ?_
    refine u_ifF (pc := 9) (tgt := 22) (dec_at lsk_273 (k := 7) rfl) rfl (cl_ne g7 g8) (fun e14 => ?_) (fun e14 => ?_)
    · have h := ifT e14 h
      refine u_ld (v := iV l9) (pc := 12) (dec_at lsk_273 (k := 8) rfl) rfl ?_
      refine u_ld (v := iV (u3.1 343 ((40 * l1) + l2))) (pc := 13) (dec_at lsk_273 (k := 9) rfl) rfl ?_
      have g15 := h.1
      have h := h.2
      have g16 := h.1
      have h := h.2
      refine u_icF (pc := 15) (tgt := 22) (dec_at lsk_273 (k := 10) rfl) rfl (ci_ge g15 g16) (fun e17 => ?_) (fun e17 => ?_)
      · have h := ifT e17 h
        refine u_ld (v := iV 1) (pc := 18) (dec_at lsk_273 (k := 11) rfl) rfl ?_
        refine u_goto (pc := 19) (tgt := 23) (dec_at lsk_273 (k := 12) rfl) rfl ?_
        refine u_rZ (pc := 23) (dec_at lsk_273 (k := 14) rfl) rfl (by decide) ?_
        refine u_ifT (pc := 195) (tgt := 224) (dec_at lsk_279 (k := 115) rfl) rfl (c0_eq (by decide)) (fun e => absurd e (by decide)) (fun _ => ?_)
        refine u_ld (v := .ref 271) (pc := 198) (dec_at lsk_279 (k := 116) rfl) rfl ?_
        refine u_gS (o := 71) (p := 342) (pc := 199) (dec_at lsk_279 (k := 117) rfl) f_12_226 sx_271 rfl rfl ?_
        refine u_c (x := 40) (pc := 202) (dec_at lsk_279 (k := 118) rfl) rfl (by decide) ?_
        refine u_ld (v := iV l1) (pc := 204) (dec_at lsk_279 (k := 119) rfl) rfl ?_
        refine u_imul (pc := 205) (dec_at lsk_279 (k := 120) rfl) ?_
        refine u_ld (v := iV l2) (pc := 206) (dec_at lsk_279 (k := 121) rfl) rfl ?_
        refine u_iadd (pc := 207) (dec_at lsk_279 (k := 122) rfl) ?_
        refine u_ld (v := lV l7) (pc := 208) (dec_at lsk_279 (k := 123) rfl) rfl ?_
        refine u_last (pc := 210) (dec_at lsk_279 (k := 124) rfl) sx_342 g5 g6 (fun u18 e19 => ?_)
        have h := h u18 e19
        refine u_ld (v := .ref 271) (pc := 211) (dec_at lsk_279 (k := 125) rfl) rfl ?_
        refine u_gS (o := 72) (p := 343) (pc := 212) (dec_at lsk_279 (k := 126) rfl) f_12_229 sx_271 rfl rfl ?_
        refine u_c (x := 40) (pc := 215) (dec_at lsk_279 (k := 127) rfl) rfl (by decide) ?_
        refine u_ld (v := iV l1) (pc := 217) (dec_at lsk_279 (k := 128) rfl) rfl ?_
        refine u_imul (pc := 218) (dec_at lsk_279 (k := 129) rfl) ?_
        refine u_ld (v := iV l2) (pc := 219) (dec_at lsk_279 (k := 130) rfl) rfl ?_
        refine u_iadd (pc := 220) (dec_at lsk_279 (k := 131) rfl) ?_
        refine u_ld (v := iV l9) (pc := 221) (dec_at lsk_279 (k := 132) rfl) rfl ?_
        refine u_iast (pc := 223) (dec_at lsk_279 (k := 133) rfl) sx_343 g5 g6 (fun u20 e21 => ?_)
        have h := h u20 e21
        exact u_rV (pc := 224) (dec_at lsk_279 (k := 134) rfl) rfl h
      · have h := ifF e17 h
        refine u_ld (v := iV 0) (pc := 22) (dec_at lsk_273 (k := 13) rfl) rfl ?_
        refine u_rZ (pc := 23) (dec_at lsk_273 (k := 14) rfl) rfl (by decide) ?_
        refine u_ifT (pc := 195) (tgt := 224) (dec_at lsk_279 (k := 115) rfl) rfl (c0_eq (by decide)) (fun _ => ?_) (fun e => absurd e (by decide))
        exact u_rV (pc := 224) (dec_at lsk_279 (k := 134) rfl) rfl h
    · have h := ifF e14 h
      refine u_ld (v := iV 0) (pc := 22) (dec_at lsk_273 (k := 13) rfl) rfl ?_
      refine u_rZ (pc := 23) (dec_at lsk_273 (k := 14) rfl) rfl (by decide) ?_
      refine u_ifT (pc := 195) (tgt := 224) (dec_at lsk_279 (k := 115) rfl) rfl (c0_eq (by decide)) (fun _ => ?_) (fun e => absurd e (by decide))
      exact u_rV (pc := 224) (dec_at lsk_279 (k := 134) rfl) rfl h
/-- method 280 -/
def K_280 (d pc : Nat) (lv : ev_L) (st : List Value) (u : uS) (Q : Int → uS → Prop) : Prop := okU d 12 17 false (some .boolean) prog_14_method_80_code (qI Q) pc lv st u
theorem e_280 {d : Nat} {Q : Int → uS → Prop} {u : uS} {l1 l2 l3 l4 l5 l6 l8 : Int} (h : (0 ≤ (40 * (l2 + 1)) + l4) ∧ (((40 * (l2 + 1)) + l4 < 280) ∧ ((rL (u.1 342 ((40 * (l2 + 1)) + l4))) ∧ (if u.1 342 ((40 * (l2 + 1)) + l4) = 6000000000000000000 then (K_280 (d + 1) 91 [.ref 271, .retAddr 0, iV l2, iV l3, iV l4, iV l5, .retAddr 0, .retAddr 0, lV l8, .retAddr 0, iV (wI l6), lV (u.1 342 ((40 * (l2 + 1)) + l4)), .retAddr 0, .retAddr 0, .retAddr 0, .retAddr 0, .retAddr 0] [iV 0] u Q) else ((rI l5) ∧ (if l5 < 100 then ((0 ≤ ((400 * l1) + (10 * l3)) + l5) ∧ ((((400 * l1) + (10 * l3)) + l5 < 40000) ∧ ((rI (u.1 302 (((400 * l1) + (10 * l3)) + l5))) ∧ ((rI l4) ∧ (if u.1 302 (((400 * l1) + (10 * l3)) + l5) = l4 then (K_280 (d + 1) 91 [.ref 271, .retAddr 0, iV l2, iV l3, iV l4, iV l5, .retAddr 0, .retAddr 0, lV l8, .retAddr 0, iV (wI l6), lV (u.1 342 ((40 * (l2 + 1)) + l4)), .retAddr 0, .retAddr 0, .retAddr 0, .retAddr 0, .retAddr 0] [iV 1] u Q) else (K_280 (d + 1) 91 [.ref 271, .retAddr 0, iV l2, iV l3, iV l4, iV l5, .retAddr 0, .retAddr 0, lV l8, .retAddr 0, iV (wI l6), lV (u.1 342 ((40 * (l2 + 1)) + l4)), .retAddr 0, .retAddr 0, .retAddr 0, .retAddr 0, .retAddr 0] [iV 0] u Q)))))) else ((0 ≤ (((10 * l3) + (l5 - 100)) * 40) + l4) ∧ (((((10 * l3) + (l5 - 100)) * 40) + l4 < 16000) ∧ ((rL (u.1 324 ((((10 * l3) + (l5 - 100)) * 40) + l4))) ∧ (if u.1 324 ((((10 * l3) + (l5 - 100)) * 40) + l4) = 6000000000000000000 then (K_280 (d + 1) 91 [.ref 271, .retAddr 0, iV l2, iV l3, iV l4, iV l5, .retAddr 0, .retAddr 0, lV l8, .retAddr 0, iV (wI l6), lV (u.1 342 ((40 * (l2 + 1)) + l4)), .retAddr 0, .retAddr 0, .retAddr 0, .retAddr 0, .retAddr 0] [iV 0] u Q) else (K_280 (d + 1) 91 [.ref 271, .retAddr 0, iV l2, iV l3, iV l4, iV l5, .retAddr 0, .retAddr 0, lV l8, .retAddr 0, iV (wI l6), lV (u.1 342 ((40 * (l2 + 1)) + l4)), .retAddr 0, .retAddr 0, .retAddr 0, .retAddr 0, .retAddr 0] [iV 1] u Q))))))))))) : cI (d + 2) 280 [.ref 271, iV l1, iV l2, iV l3, iV l4, iV l5, lV l6, lV l8] u Q := by
  refine u_of me_280 (Nat.le_of_ble_eq_true rfl) ?_
  refine u_ld (v := lV l6) (pc := 0) (dec_at lsk_280 (k := 0) rfl) rfl ?_
  refine u_l2w (pc := 2) (dec_at lsk_280 (k := 1) rfl) ?_
  refine u_sto (lv' := [.ref 271, iV l1, iV l2, iV l3, iV l4, iV l5, lV l6, .retAddr 0, lV l8, .retAddr 0, iV (wI l6), .retAddr 0, .retAddr 0, .retAddr 0, .retAddr 0, .retAddr 0, .retAddr 0]) (pc := 3) (dec_at lsk_280 (k := 2) rfl) rfl ?_
  refine u_ld (v := .ref 271) (pc := 5) (dec_at lsk_280 (k := 3) rfl) rfl ?_
  refine u_gS (o := 71) (p := 342) (pc := 6) (dec_at lsk_280 (k := 4) rfl) f_12_226 sx_271 rfl rfl ?_
  refine u_c (x := 40) (pc := 9) (dec_at lsk_280 (k := 5) rfl) rfl (by decide) ?_
  refine u_ld (v := iV l2) (pc := 11) (dec_at lsk_280 (k := 6) rfl) rfl ?_
  refine u_ld (v := iV 1) (pc := 12) (dec_at lsk_280 (k := 7) rfl) rfl ?_
  refine u_iadd (pc := 13) (dec_at lsk_280 (k := 8) rfl) ?_
  refine u_imul (pc := 14) (dec_at lsk_280 (k := 9) rfl) ?_
  refine u_ld (v := iV l4) (pc := 15) (dec_at lsk_280 (k := 10) rfl) rfl ?_
  refine u_iadd (pc := 17) (dec_at lsk_280 (k := 11) rfl) ?_
  have g1 := h.1
  have h := h.2
  have g2 := h.1
  have h := h.2
  refine u_lald (pc := 18) (dec_at lsk_280 (k := 12) rfl) sx_342 g1 g2 ?_
  refine u_sto (lv' := [.ref 271, iV l1, iV l2, iV l3, iV l4, iV l5, lV l6, .retAddr 0, lV l8, .retAddr 0, iV (wI l6), lV (u.1 342 ((40 * (l2 + 1)) + l4)), .retAddr 0, .retAddr 0, .retAddr 0, .retAddr 0, .retAddr 0]) (pc := 19) (dec_at lsk_280 (k := 13) rfl) rfl ?_
  refine u_ld (v := lV (u.1 342 ((40 * (l2 + 1)) + l4))) (pc := 21) (dec_at lsk_280 (k := 14) rfl) rfl ?_
  refine u_ldc2 (x := 6000000000000000000) (pc := 23) (dec_at lsk_280 (k := 15) rfl) con_12_487 (by decide) ?_
  refine u_st (st' := [.int (lg_cmp (Int64.ofInt (u.1 342 ((40 * (l2 + 1)) + l4))) (Int64.ofInt 6000000000000000000))]) (pc := 26) (dec_at lsk_280 (k := 16) rfl) rfl ?_
  have g3 := h.1
  have h := h.2
  refine u_ifT (pc := 27) (tgt := 90) (dec_at lsk_280 (k := 17) rfl) rfl (cl_eq g3 (by decide)) (fun e4 => ?_) (fun e4 => ?_)
  · have h := ifT e4 h
    refine u_ld (v := iV 0) (pc := 90) (dec_at lsk_280 (k := 50) rfl) rfl ?_
    exact u_weak (sbK (sbD (sbK (sbK (sbK (sbK (sbD (sbK (sbK (sbK (sbK (sbK (sbK (sbK (sbK (sbK (sbK sb0))))))))))))))))) h
  · have h := ifF e4 h
    refine u_ld (v := iV l5) (pc := 30) (dec_at lsk_280 (k := 18) rfl) rfl ?_
    refine u_c (x := 100) (pc := 32) (dec_at lsk_280 (k := 19) rfl) rfl (by decide) ?_
    have g5 := h.1
    have h := h.2
    refine u_icF (pc := 34) (tgt := 63) (dec_at lsk_280 (k := 20) rfl) rfl (ci_ge g5 (by decide)) (fun e6 => ?_) (fun e6 => ?_)
    · have h := ifT e6 h
      refine u_ld (v := .ref 271) (pc := 37) (dec_at lsk_280 (k := 21) rfl) rfl ?_
      refine u_gS (o := 31) (p := 302) (pc := 38) (dec_at lsk_280 (k := 22) rfl) f_12_103 sx_271 rfl rfl ?_
      refine u_c (x := 400) (pc := 41) (dec_at lsk_280 (k := 23) rfl) rfl (by decide) ?_
      refine u_ld (v := iV l1) (pc := 44) (dec_at lsk_280 (k := 24) rfl) rfl ?_
      refine u_imul (pc := 45) (dec_at lsk_280 (k := 25) rfl) ?_
      refine u_c (x := 10) (pc := 46) (dec_at lsk_280 (k := 26) rfl) rfl (by decide) ?_
      refine u_ld (v := iV l3) (pc := 48) (dec_at lsk_280 (k := 27) rfl) rfl ?_
      refine u_imul (pc := 49) (dec_at lsk_280 (k := 28) rfl) ?_
      refine u_iadd (pc := 50) (dec_at lsk_280 (k := 29) rfl) ?_
      refine u_ld (v := iV l5) (pc := 51) (dec_at lsk_280 (k := 30) rfl) rfl ?_
      refine u_iadd (pc := 53) (dec_at lsk_280 (k := 31) rfl) ?_
      have g7 := h.1
      have h := h.2
      have g8 := h.1
      have h := h.2
      refine u_iald (pc := 54) (dec_at lsk_280 (k := 32) rfl) sx_302 g7 g8 ?_
      refine u_ld (v := iV l4) (pc := 55) (dec_at lsk_280 (k := 33) rfl) rfl ?_
      have g9 := h.1
      have h := h.2
      have g10 := h.1
      have h := h.2
      refine u_icF (pc := 57) (tgt := 90) (dec_at lsk_280 (k := 34) rfl) rfl (ci_ne g9 g10) (fun e11 => ?_) (fun e11 => ?_)
      · have h := ifT e11 h
        refine u_goto (pc := 60) (tgt := 86) (dec_at lsk_280 (k := 35) rfl) rfl ?_
        refine u_ld (v := iV 1) (pc := 86) (dec_at lsk_280 (k := 48) rfl) rfl ?_
        refine u_goto (pc := 87) (tgt := 91) (dec_at lsk_280 (k := 49) rfl) rfl ?_
        exact u_weak (sbK (sbD (sbK (sbK (sbK (sbK (sbD (sbK (sbK (sbK (sbK (sbK (sbK (sbK (sbK (sbK (sbK sb0))))))))))))))))) h
      · have h := ifF e11 h
        refine u_ld (v := iV 0) (pc := 90) (dec_at lsk_280 (k := 50) rfl) rfl ?_
        exact u_weak (sbK (sbD (sbK (sbK (sbK (sbK (sbD (sbK (sbK (sbK (sbK (sbK (sbK (sbK (sbK (sbK (sbK sb0))))))))))))))))) h
    · have h := ifF e6 h
      refine u_ld (v := .ref 271) (pc := 63) (dec_at lsk_280 (k := 36) rfl) rfl ?_
      refine u_gS (o := 53) (p := 324) (pc := 64) (dec_at lsk_280 (k := 37) rfl) f_12_169 sx_271 rfl rfl ?_
      refine u_ld (v := iV l3) (pc := 67) (dec_at lsk_280 (k := 38) rfl) rfl ?_
      refine u_ld (v := iV l5) (pc := 68) (dec_at lsk_280 (k := 39) rfl) rfl ?_
      refine u_c (x := 100) (pc := 70) (dec_at lsk_280 (k := 40) rfl) rfl (by decide) ?_
      refine u_isub (pc := 72) (dec_at lsk_280 (k := 41) rfl) ?_
      refine u_ld (v := iV l4) (pc := 73) (dec_at lsk_280 (k := 42) rfl) rfl ?_
      refine u_csI (As := [iV l3, iV (l5 - 100), iV l4]) (st2 := [.ref 324]) (pc := 75) (dec_at lsk_280 (k := 43) rfl) m_12_494 (Or.inl rfl) rfl (Nat.le_of_ble_eq_true rfl) ?_ (fun _ _ h_ => h_)
      refine u_of me_274 (Nat.le_of_ble_eq_true rfl) ?_
      refine u_c (x := 10) (pc := 0) (dec_at lsk_274 (k := 0) rfl) rfl (by decide) ?_
      refine u_ld (v := iV l3) (pc := 2) (dec_at lsk_274 (k := 1) rfl) rfl ?_
      refine u_imul (pc := 3) (dec_at lsk_274 (k := 2) rfl) ?_
      refine u_ld (v := iV (l5 - 100)) (pc := 4) (dec_at lsk_274 (k := 3) rfl) rfl ?_
      refine u_iadd (pc := 5) (dec_at lsk_274 (k := 4) rfl) ?_
      refine u_c (x := 40) (pc := 6) (dec_at lsk_274 (k := 5) rfl) rfl (by decide) ?_
      refine u_imul (pc := 8) (dec_at lsk_274 (k := 6) rfl) ?_
      refine u_ld (v := iV l4) (pc := 9) (dec_at lsk_274 (k := 7) rfl) rfl ?_
      refine u_iadd (pc := 10) (dec_at lsk_274 (k := 8) rfl) ?_
      refine u_rI (pc := 11) (dec_at lsk_274 (k := 9) rfl) rfl ?_
      have g12 := h.1
      have h := h.2
      have g13 := h.1
      have h := h.2
      refine u_lald (pc := 78) (dec_at lsk_280 (k := 44) rfl) sx_324 g12 g13 ?_
      refine u_ldc2 (x := 6000000000000000000) (pc := 79) (dec_at lsk_280 (k := 45) rfl) con_12_487 (by decide) ?_
      refine u_st (st' := [.int (lg_cmp (Int64.ofInt (u.1 324 ((((10 * l3) + (l5 - 100)) * 40) + l4))) (Int64.ofInt 6000000000000000000))]) (pc := 82) (dec_at lsk_280 (k := 46) rfl) rfl ?_
      have g14 := h.1
      have h := h.2
      refine u_ifT (pc := 83) (tgt := 90) (dec_at lsk_280 (k := 47) rfl) rfl (cl_eq g14 (by decide)) (fun e15 => ?_) (fun e15 => ?_)
      · have h := ifT e15 h
        refine u_ld (v := iV 0) (pc := 90) (dec_at lsk_280 (k := 50) rfl) rfl ?_
        exact u_weak (sbK (sbD (sbK (sbK (sbK (sbK (sbD (sbK (sbK (sbK (sbK (sbK (sbK (sbK (sbK (sbK (sbK sb0))))))))))))))))) h
      · have h := ifF e15 h
        refine u_ld (v := iV 1) (pc := 86) (dec_at lsk_280 (k := 48) rfl) rfl ?_
        refine u_goto (pc := 87) (tgt := 91) (dec_at lsk_280 (k := 49) rfl) rfl ?_
        exact u_weak (sbK (sbD (sbK (sbK (sbK (sbK (sbD (sbK (sbK (sbK (sbK (sbK (sbK (sbK (sbK (sbK (sbK sb0))))))))))))))))) h
theorem k_280_91 {d : Nat} {Q : Int → uS → Prop} {u : uS} {l2 l3 l4 l5 l8 l10 l11 s0 : Int} (h : (rI s0) ∧ (if s0 = 0 then (Q 0 u) else ((rI l5) ∧ (if l5 < 100 then ((cn 5000000000000000000 l8) ∧ ((cn 5000000000000000000 1) ∧ ((cn 5000000000000000000 l11) ∧ (K_280 (d + 1) 166 [.ref 271, .retAddr 0, iV l2, .retAddr 0, iV l4, .retAddr 0, .retAddr 0, .retAddr 0, .retAddr 0, .retAddr 0, iV l10, .retAddr 0, .retAddr 0, .retAddr 0, lV (pl 5000000000000000000 (pl 5000000000000000000 l8 1) l11), .retAddr 0, .retAddr 0] [iV 0] u Q)))) else ((0 ≤ (((10 * l3) + (l5 - 100)) * 40) + l4) ∧ (((((10 * l3) + (l5 - 100)) * 40) + l4 < 16000) ∧ ((cn 5000000000000000000 l8) ∧ ((cn 5000000000000000000 (u.1 324 ((((10 * l3) + (l5 - 100)) * 40) + l4))) ∧ ((cn 5000000000000000000 l11) ∧ (K_280 (d + 1) 166 [.ref 271, .retAddr 0, iV l2, .retAddr 0, iV l4, .retAddr 0, .retAddr 0, .retAddr 0, .retAddr 0, .retAddr 0, iV l10, .retAddr 0, .retAddr 0, .retAddr 0, lV (pl 5000000000000000000 (pl 5000000000000000000 l8 (u.1 324 ((((10 * l3) + (l5 - 100)) * 40) + l4))) l11), .retAddr 0, .retAddr 0] [iV (u.1 325 ((((10 * l3) + (l5 - 100)) * 40) + l4))] u Q)))))))))) : K_280 (d + 1) 91 [.ref 271, .retAddr 0, iV l2, iV l3, iV l4, iV l5, .retAddr 0, .retAddr 0, lV l8, .retAddr 0, iV l10, lV l11, .retAddr 0, .retAddr 0, .retAddr 0, .retAddr 0, .retAddr 0] [iV s0] u Q := by
  unfold K_280
  refine u_sto (lv' := [.ref 271, .retAddr 0, iV l2, iV l3, iV l4, iV l5, .retAddr 0, .retAddr 0, lV l8, .retAddr 0, iV l10, lV l11, .retAddr 0, iV s0, .retAddr 0, .retAddr 0, .retAddr 0]) (pc := 91) (dec_at lsk_280 (k := 51) rfl) rfl ?_
  refine u_ld (v := iV s0) (pc := 93) (dec_at lsk_280 (k := 52) rfl) rfl ?_
  have g1 := h.1
  have h := h.2
  refine u_ifF (pc := 95) (tgt := 100) (dec_at lsk_280 (k := 53) rfl) rfl (c0_ne g1) (fun e2 => ?_) (fun e2 => ?_)
  · have h := ifT e2 h
    refine u_ld (v := iV 0) (pc := 98) (dec_at lsk_280 (k := 54) rfl) rfl ?_
    exact u_rZ (pc := 99) (dec_at lsk_280 (k := 55) rfl) rfl (by decide) h
  · have h := ifF e2 h
    refine u_ld (v := lV l8) (pc := 100) (dec_at lsk_280 (k := 56) rfl) rfl ?_
    refine u_ld (v := iV l5) (pc := 102) (dec_at lsk_280 (k := 57) rfl) rfl ?_
    refine u_c (x := 100) (pc := 104) (dec_at lsk_280 (k := 58) rfl) rfl (by decide) ?_
    have g3 := h.1
    have h := h.2
    refine u_icF (pc := 106) (tgt := 113) (dec_at lsk_280 (k := 59) rfl) rfl (ci_ge g3 (by decide)) (fun e4 => ?_) (fun e4 => ?_)
    · have h := ifT e4 h
      refine u_cl (x := 1) (pc := 109) (dec_at lsk_280 (k := 60) rfl) rfl (by decide) ?_
      refine u_goto (pc := 110) (tgt := 129) (dec_at lsk_280 (k := 61) rfl) rfl ?_
      have g5 := h.1
      have h := h.2
      have g6 := h.1
      have h := h.2
      refine u_csL (As := [lV l8, lV 1]) (st2 := []) (pc := 129) (dec_at lsk_280 (k := 71) rfl) m_12_323 (Or.inl rfl) rfl (Nat.le_of_ble_eq_true rfl) (p_217 g5 g6) (fun r_ u_ h_ => ?_)
      rw [h_.1, h_.2]
      refine u_ld (v := lV l11) (pc := 132) (dec_at lsk_280 (k := 72) rfl) rfl ?_
      have g7 := h.1
      have h := h.2
      refine u_csL (As := [lV (pl 5000000000000000000 l8 1), lV l11]) (st2 := []) (pc := 134) (dec_at lsk_280 (k := 73) rfl) m_12_323 (Or.inl rfl) rfl (Nat.le_of_ble_eq_true rfl) (p_217 (cn_pl g5 g6) g7) (fun r_ u_ h_ => ?_)
      rw [h_.1, h_.2]
      refine u_sto (lv' := [.ref 271, .retAddr 0, iV l2, iV l3, iV l4, iV l5, .retAddr 0, .retAddr 0, lV l8, .retAddr 0, iV l10, lV l11, .retAddr 0, iV s0, lV (pl 5000000000000000000 (pl 5000000000000000000 l8 1) l11), .retAddr 0, .retAddr 0]) (pc := 137) (dec_at lsk_280 (k := 74) rfl) rfl ?_
      refine u_ld (v := iV l5) (pc := 139) (dec_at lsk_280 (k := 75) rfl) rfl ?_
      refine u_c (x := 100) (pc := 141) (dec_at lsk_280 (k := 76) rfl) rfl (by decide) ?_
      refine u_icF (pc := 143) (tgt := 150) (dec_at lsk_280 (k := 77) rfl) rfl (ci_ge g3 (by decide)) (fun _ => ?_) (fun e8 => absurd e4 e8)
      refine u_ld (v := iV 0) (pc := 146) (dec_at lsk_280 (k := 78) rfl) rfl ?_
      refine u_goto (pc := 147) (tgt := 166) (dec_at lsk_280 (k := 79) rfl) rfl ?_
      exact u_weak (sbK (sbK (sbK (sbD (sbK (sbD (sbK (sbK (sbD (sbK (sbK (sbD (sbK (sbD (sbK (sbK (sbK sb0))))))))))))))))) h
    · have h := ifF e4 h
      refine u_ld (v := .ref 271) (pc := 113) (dec_at lsk_280 (k := 62) rfl) rfl ?_
      refine u_gS (o := 53) (p := 324) (pc := 114) (dec_at lsk_280 (k := 63) rfl) f_12_169 sx_271 rfl rfl ?_
      refine u_ld (v := iV l3) (pc := 117) (dec_at lsk_280 (k := 64) rfl) rfl ?_
      refine u_ld (v := iV l5) (pc := 118) (dec_at lsk_280 (k := 65) rfl) rfl ?_
      refine u_c (x := 100) (pc := 120) (dec_at lsk_280 (k := 66) rfl) rfl (by decide) ?_
      refine u_isub (pc := 122) (dec_at lsk_280 (k := 67) rfl) ?_
      refine u_ld (v := iV l4) (pc := 123) (dec_at lsk_280 (k := 68) rfl) rfl ?_
      refine u_csI (As := [iV l3, iV (l5 - 100), iV l4]) (st2 := [.ref 324, lV l8]) (pc := 125) (dec_at lsk_280 (k := 69) rfl) m_12_494 (Or.inl rfl) rfl (Nat.le_of_ble_eq_true rfl) ?_ (fun _ _ h_ => h_)
      refine u_of me_274 (Nat.le_of_ble_eq_true rfl) ?_
      refine u_c (x := 10) (pc := 0) (dec_at lsk_274 (k := 0) rfl) rfl (by decide) ?_
      refine u_ld (v := iV l3) (pc := 2) (dec_at lsk_274 (k := 1) rfl) rfl ?_
      refine u_imul (pc := 3) (dec_at lsk_274 (k := 2) rfl) ?_
      refine u_ld (v := iV (l5 - 100)) (pc := 4) (dec_at lsk_274 (k := 3) rfl) rfl ?_
      refine u_iadd (pc := 5) (dec_at lsk_274 (k := 4) rfl) ?_
      refine u_c (x := 40) (pc := 6) (dec_at lsk_274 (k := 5) rfl) rfl (by decide) ?_
      refine u_imul (pc := 8) (dec_at lsk_274 (k := 6) rfl) ?_
      refine u_ld (v := iV l4) (pc := 9) (dec_at lsk_274 (k := 7) rfl) rfl ?_
      refine u_iadd (pc := 10) (dec_at lsk_274 (k := 8) rfl) ?_
      refine u_rI (pc := 11) (dec_at lsk_274 (k := 9) rfl) rfl ?_
      have g9 := h.1
      have h := h.2
      have g10 := h.1
      have h := h.2
      refine u_lald (pc := 128) (dec_at lsk_280 (k := 70) rfl) sx_324 g9 g10 ?_
      have g11 := h.1
      have h := h.2
      have g12 := h.1
      have h := h.2
      refine u_csL (As := [lV l8, lV (u.1 324 ((((10 * l3) + (l5 - 100)) * 40) + l4))]) (st2 := []) (pc := 129) (dec_at lsk_280 (k := 71) rfl) m_12_323 (Or.inl rfl) rfl (Nat.le_of_ble_eq_true rfl) (p_217 g11 g12) (fun r_ u_ h_ => ?_)
      rw [h_.1, h_.2]
      refine u_ld (v := lV l11) (pc := 132) (dec_at lsk_280 (k := 72) rfl) rfl ?_
      have g13 := h.1
      have h := h.2
      refine u_csL (As := [lV (pl 5000000000000000000 l8 (u.1 324 ((((10 * l3) + (l5 - 100)) * 40) + l4))), lV l11]) (st2 := []) (pc := 134) (dec_at lsk_280 (k := 73) rfl) m_12_323 (Or.inl rfl) rfl (Nat.le_of_ble_eq_true rfl) (p_217 (cn_pl g11 g12) g13) (fun r_ u_ h_ => ?_)
      rw [h_.1, h_.2]
      refine u_sto (lv' := [.ref 271, .retAddr 0, iV l2, iV l3, iV l4, iV l5, .retAddr 0, .retAddr 0, lV l8, .retAddr 0, iV l10, lV l11, .retAddr 0, iV s0, lV (pl 5000000000000000000 (pl 5000000000000000000 l8 (u.1 324 ((((10 * l3) + (l5 - 100)) * 40) + l4))) l11), .retAddr 0, .retAddr 0]) (pc := 137) (dec_at lsk_280 (k := 74) rfl) rfl ?_
      refine u_ld (v := iV l5) (pc := 139) (dec_at lsk_280 (k := 75) rfl) rfl ?_
      refine u_c (x := 100) (pc := 141) (dec_at lsk_280 (k := 76) rfl) rfl (by decide) ?_
      refine u_icF (pc := 143) (tgt := 150) (dec_at lsk_280 (k := 77) rfl) rfl (ci_ge g3 (by decide)) (fun e14 => absurd e14 e4) (fun _ => ?_)
      refine u_ld (v := .ref 271) (pc := 150) (dec_at lsk_280 (k := 80) rfl) rfl ?_
      refine u_gS (o := 54) (p := 325) (pc := 151) (dec_at lsk_280 (k := 81) rfl) f_12_172 sx_271 rfl rfl ?_
      refine u_ld (v := iV l3) (pc := 154) (dec_at lsk_280 (k := 82) rfl) rfl ?_
      refine u_ld (v := iV l5) (pc := 155) (dec_at lsk_280 (k := 83) rfl) rfl ?_
      refine u_c (x := 100) (pc := 157) (dec_at lsk_280 (k := 84) rfl) rfl (by decide) ?_
      refine u_isub (pc := 159) (dec_at lsk_280 (k := 85) rfl) ?_
      refine u_ld (v := iV l4) (pc := 160) (dec_at lsk_280 (k := 86) rfl) rfl ?_
      refine u_csI (As := [iV l3, iV (l5 - 100), iV l4]) (st2 := [.ref 325]) (pc := 162) (dec_at lsk_280 (k := 87) rfl) m_12_494 (Or.inl rfl) rfl (Nat.le_of_ble_eq_true rfl) ?_ (fun _ _ h_ => h_)
      refine u_of me_274 (Nat.le_of_ble_eq_true rfl) ?_
      refine u_c (x := 10) (pc := 0) (dec_at lsk_274 (k := 0) rfl) rfl (by decide) ?_
      refine u_ld (v := iV l3) (pc := 2) (dec_at lsk_274 (k := 1) rfl) rfl ?_
      refine u_imul (pc := 3) (dec_at lsk_274 (k := 2) rfl) ?_
      refine u_ld (v := iV (l5 - 100)) (pc := 4) (dec_at lsk_274 (k := 3) rfl) rfl ?_
      refine u_iadd (pc := 5) (dec_at lsk_274 (k := 4) rfl) ?_
      refine u_c (x := 40) (pc := 6) (dec_at lsk_274 (k := 5) rfl) rfl (by decide) ?_
      refine u_imul (pc := 8) (dec_at lsk_274 (k := 6) rfl) ?_
      refine u_ld (v := iV l4) (pc := 9) (dec_at lsk_274 (k := 7) rfl) rfl ?_
      refine u_iadd (pc := 10) (dec_at lsk_274 (k := 8) rfl) ?_
      refine u_rI (pc := 11) (dec_at lsk_274 (k := 9) rfl) rfl ?_
      refine u_iald (pc := 165) (dec_at lsk_280 (k := 88) rfl) sx_325 g9 g10 ?_
      exact u_weak (sbK (sbK (sbK (sbD (sbK (sbD (sbK (sbK (sbD (sbK (sbK (sbD (sbK (sbD (sbK (sbK (sbK sb0))))))))))))))))) h
theorem k_280_166 {d : Nat} {Q : Int → uS → Prop} {u : uS} {l2 l4 l10 l14 s0 : Int} (h : (0 ≤ l10) ∧ ((l10 < 16000) ∧ ((rL (u.1 324 l10)) ∧ (if u.1 324 l10 = 4000000000000000000 then ((rI s0) ∧ ((rI (u.1 325 l10)) ∧ (if s0 < u.1 325 l10 then ((0 ≤ (40 * (l2 + 1)) + l4) ∧ (((40 * (l2 + 1)) + l4 < 280) ∧ ((rI (u.1 344 ((40 * (l2 + 1)) + l4))) ∧ (if u.1 344 ((40 * (l2 + 1)) + l4) < u.1 325 l10 then (Q 1 u) else (Q 0 u))))) else (Q 0 u)))) else ((rL l14) ∧ (if l14 = u.1 324 l10 then ((rI s0) ∧ ((rI (u.1 325 l10)) ∧ (if s0 < u.1 325 l10 then ((0 ≤ (40 * (l2 + 1)) + l4) ∧ (((40 * (l2 + 1)) + l4 < 280) ∧ ((rI (u.1 343 ((40 * (l2 + 1)) + l4))) ∧ (if u.1 343 ((40 * (l2 + 1)) + l4) < u.1 325 l10 then (Q 1 u) else (Q 0 u))))) else (Q 0 u)))) else (Q 0 u))))))) : K_280 (d + 1) 166 [.ref 271, .retAddr 0, iV l2, .retAddr 0, iV l4, .retAddr 0, .retAddr 0, .retAddr 0, .retAddr 0, .retAddr 0, iV l10, .retAddr 0, .retAddr 0, .retAddr 0, lV l14, .retAddr 0, .retAddr 0] [iV s0] u Q := by
  unfold K_280
  refine u_sto (lv' := [.ref 271, .retAddr 0, iV l2, .retAddr 0, iV l4, .retAddr 0, .retAddr 0, .retAddr 0, .retAddr 0, .retAddr 0, iV l10, .retAddr 0, .retAddr 0, .retAddr 0, lV l14, .retAddr 0, iV s0]) (pc := 166) (dec_at lsk_280 (k := 89) rfl) rfl ?_
  refine u_ld (v := .ref 271) (pc := 168) (dec_at lsk_280 (k := 90) rfl) rfl ?_
  refine u_gS (o := 53) (p := 324) (pc := 169) (dec_at lsk_280 (k := 91) rfl) f_12_169 sx_271 rfl rfl ?_
  refine u_ld (v := iV l10) (pc := 172) (dec_at lsk_280 (k := 92) rfl) rfl ?_
  have g1 := h.1
  have h := h.2
  have g2 := h.1
  have h := h.2
  refine u_lald (pc := 174) (dec_at lsk_280 (k := 93) rfl) sx_324 g1 g2 ?_
  refine u_ldc2 (x := 4000000000000000000) (pc := 175) (dec_at lsk_280 (k := 94) rfl) con_12_244 (by decide) ?_
  refine u_st (st' := [.int (lg_cmp (Int64.ofInt (u.1 324 l10)) (Int64.ofInt 4000000000000000000))]) (pc := 178) (dec_at lsk_280 (k := 95) rfl) rfl ?_
  have g3 := h.1
  have h := h.2
  refine u_ifF (pc := 179) (tgt := 224) (dec_at lsk_280 (k := 96) rfl) rfl (cl_ne g3 (by decide)) (fun e4 => ?_) (fun e4 => ?_)
  · have h := ifT e4 h
    refine u_ld (v := iV s0) (pc := 182) (dec_at lsk_280 (k := 97) rfl) rfl ?_
    refine u_ld (v := .ref 271) (pc := 184) (dec_at lsk_280 (k := 98) rfl) rfl ?_
    refine u_gS (o := 54) (p := 325) (pc := 185) (dec_at lsk_280 (k := 99) rfl) f_12_172 sx_271 rfl rfl ?_
    refine u_ld (v := iV l10) (pc := 188) (dec_at lsk_280 (k := 100) rfl) rfl ?_
    refine u_iald (pc := 190) (dec_at lsk_280 (k := 101) rfl) sx_325 g1 g2 ?_
    have g5 := h.1
    have h := h.2
    have g6 := h.1
    have h := h.2
    refine u_icF (pc := 191) (tgt := 222) (dec_at lsk_280 (k := 102) rfl) rfl (ci_ge g5 g6) (fun e7 => ?_) (fun e7 => ?_)
    · have h := ifT e7 h
      refine u_ld (v := .ref 271) (pc := 194) (dec_at lsk_280 (k := 103) rfl) rfl ?_
      refine u_gS (o := 73) (p := 344) (pc := 195) (dec_at lsk_280 (k := 104) rfl) f_12_232 sx_271 rfl rfl ?_
      refine u_c (x := 40) (pc := 198) (dec_at lsk_280 (k := 105) rfl) rfl (by decide) ?_
      refine u_ld (v := iV l2) (pc := 200) (dec_at lsk_280 (k := 106) rfl) rfl ?_
      refine u_ld (v := iV 1) (pc := 201) (dec_at lsk_280 (k := 107) rfl) rfl ?_
      refine u_iadd (pc := 202) (dec_at lsk_280 (k := 108) rfl) ?_
      refine u_imul (pc := 203) (dec_at lsk_280 (k := 109) rfl) ?_
      refine u_ld (v := iV l4) (pc := 204) (dec_at lsk_280 (k := 110) rfl) rfl ?_
      refine u_iadd (pc := 206) (dec_at lsk_280 (k := 111) rfl) ?_
      have g8 := h.1
      have h := h.2
      have g9 := h.1
      have h := h.2
      refine u_iald (pc := 207) (dec_at lsk_280 (k := 112) rfl) sx_344 g8 g9 ?_
      refine u_ld (v := .ref 271) (pc := 208) (dec_at lsk_280 (k := 113) rfl) rfl ?_
      refine u_gS (o := 54) (p := 325) (pc := 209) (dec_at lsk_280 (k := 114) rfl) f_12_172 sx_271 rfl rfl ?_
      refine u_ld (v := iV l10) (pc := 212) (dec_at lsk_280 (k := 115) rfl) rfl ?_
      refine u_iald (pc := 214) (dec_at lsk_280 (k := 116) rfl) sx_325 g1 g2 ?_
      have g10 := h.1
      have h := h.2
      refine u_icF (pc := 215) (tgt := 222) (dec_at lsk_280 (k := 117) rfl) rfl (ci_ge g10 g6) (fun e11 => ?_) (fun e11 => ?_)
      · have h := ifT e11 h
        refine u_ld (v := iV 1) (pc := 218) (dec_at lsk_280 (k := 118) rfl) rfl ?_
        refine u_goto (pc := 219) (tgt := 223) (dec_at lsk_280 (k := 119) rfl) rfl ?_
        exact u_rZ (pc := 223) (dec_at lsk_280 (k := 121) rfl) rfl (by decide) h
      · have h := ifF e11 h
        refine u_ld (v := iV 0) (pc := 222) (dec_at lsk_280 (k := 120) rfl) rfl ?_
        exact u_rZ (pc := 223) (dec_at lsk_280 (k := 121) rfl) rfl (by decide) h
    · have h := ifF e7 h
      refine u_ld (v := iV 0) (pc := 222) (dec_at lsk_280 (k := 120) rfl) rfl ?_
      exact u_rZ (pc := 223) (dec_at lsk_280 (k := 121) rfl) rfl (by decide) h
  · have h := ifF e4 h
    refine u_ld (v := lV l14) (pc := 224) (dec_at lsk_280 (k := 122) rfl) rfl ?_
    refine u_ld (v := .ref 271) (pc := 226) (dec_at lsk_280 (k := 123) rfl) rfl ?_
    refine u_gS (o := 53) (p := 324) (pc := 227) (dec_at lsk_280 (k := 124) rfl) f_12_169 sx_271 rfl rfl ?_
    refine u_ld (v := iV l10) (pc := 230) (dec_at lsk_280 (k := 125) rfl) rfl ?_
    refine u_lald (pc := 232) (dec_at lsk_280 (k := 126) rfl) sx_324 g1 g2 ?_
    refine u_st (st' := [.int (lg_cmp (Int64.ofInt l14) (Int64.ofInt (u.1 324 l10)))]) (pc := 233) (dec_at lsk_280 (k := 127) rfl) rfl ?_
    have g12 := h.1
    have h := h.2
    refine u_ifF (pc := 234) (tgt := 277) (dec_at lsk_280 (k := 128) rfl) rfl (cl_ne g12 g3) (fun e13 => ?_) (fun e13 => ?_)
    · have h := ifT e13 h
      refine u_ld (v := iV s0) (pc := 237) (dec_at lsk_280 (k := 129) rfl) rfl ?_
      refine u_ld (v := .ref 271) (pc := 239) (dec_at lsk_280 (k := 130) rfl) rfl ?_
      refine u_gS (o := 54) (p := 325) (pc := 240) (dec_at lsk_280 (k := 131) rfl) f_12_172 sx_271 rfl rfl ?_
      refine u_ld (v := iV l10) (pc := 243) (dec_at lsk_280 (k := 132) rfl) rfl ?_
      refine u_iald (pc := 245) (dec_at lsk_280 (k := 133) rfl) sx_325 g1 g2 ?_
      have g14 := h.1
      have h := h.2
      have g15 := h.1
      have h := h.2
      refine u_icF (pc := 246) (tgt := 277) (dec_at lsk_280 (k := 134) rfl) rfl (ci_ge g14 g15) (fun e16 => ?_) (fun e16 => ?_)
      · have h := ifT e16 h
        refine u_ld (v := .ref 271) (pc := 249) (dec_at lsk_280 (k := 135) rfl) rfl ?_
        refine u_gS (o := 72) (p := 343) (pc := 250) (dec_at lsk_280 (k := 136) rfl) f_12_229 sx_271 rfl rfl ?_
        refine u_c (x := 40) (pc := 253) (dec_at lsk_280 (k := 137) rfl) rfl (by decide) ?_
        refine u_ld (v := iV l2) (pc := 255) (dec_at lsk_280 (k := 138) rfl) rfl ?_
        refine u_ld (v := iV 1) (pc := 256) (dec_at lsk_280 (k := 139) rfl) rfl ?_
        refine u_iadd (pc := 257) (dec_at lsk_280 (k := 140) rfl) ?_
        refine u_imul (pc := 258) (dec_at lsk_280 (k := 141) rfl) ?_
        refine u_ld (v := iV l4) (pc := 259) (dec_at lsk_280 (k := 142) rfl) rfl ?_
        refine u_iadd (pc := 261) (dec_at lsk_280 (k := 143) rfl) ?_
        have g17 := h.1
        have h := h.2
        have g18 := h.1
        have h := h.2
        refine u_iald (pc := 262) (dec_at lsk_280 (k := 144) rfl) sx_343 g17 g18 ?_
        refine u_ld (v := .ref 271) (pc := 263) (dec_at lsk_280 (k := 145) rfl) rfl ?_
        refine u_gS (o := 54) (p := 325) (pc := 264) (dec_at lsk_280 (k := 146) rfl) f_12_172 sx_271 rfl rfl ?_
        refine u_ld (v := iV l10) (pc := 267) (dec_at lsk_280 (k := 147) rfl) rfl ?_
        refine u_iald (pc := 269) (dec_at lsk_280 (k := 148) rfl) sx_325 g1 g2 ?_
        have g19 := h.1
        have h := h.2
        refine u_icF (pc := 270) (tgt := 277) (dec_at lsk_280 (k := 149) rfl) rfl (ci_ge g19 g15) (fun e20 => ?_) (fun e20 => ?_)
        · have h := ifT e20 h
          refine u_ld (v := iV 1) (pc := 273) (dec_at lsk_280 (k := 150) rfl) rfl ?_
          refine u_goto (pc := 274) (tgt := 278) (dec_at lsk_280 (k := 151) rfl) rfl ?_
          exact u_rZ (pc := 278) (dec_at lsk_280 (k := 153) rfl) rfl (by decide) h
        · have h := ifF e20 h
          refine u_ld (v := iV 0) (pc := 277) (dec_at lsk_280 (k := 152) rfl) rfl ?_
          exact u_rZ (pc := 278) (dec_at lsk_280 (k := 153) rfl) rfl (by decide) h
      · have h := ifF e16 h
        refine u_ld (v := iV 0) (pc := 277) (dec_at lsk_280 (k := 152) rfl) rfl ?_
        exact u_rZ (pc := 278) (dec_at lsk_280 (k := 153) rfl) rfl (by decide) h
    · have h := ifF e13 h
      refine u_ld (v := iV 0) (pc := 277) (dec_at lsk_280 (k := 152) rfl) rfl ?_
      exact u_rZ (pc := 278) (dec_at lsk_280 (k := 153) rfl) rfl (by decide) h
/-- method 281 -/
def K_281 (d pc : Nat) (lv : ev_L) (st : List Value) (u : uS) (Q : Int → uS → Prop) : Prop := okU d 12 2 false (some .long) prog_14_method_83_code (qL Q) pc lv st u
theorem e_281 {d : Nat} {Q : Int → uS → Prop} {u : uS} {l1 : Int} (h : (rI (u.1 271 73)) ∧ (if u.1 271 73 = 0 then (Q (-2) u) else ((rI l1) ∧ (if l1 < 0 then (Q (-1) u) else (if 3 < l1 then (Q (-1) u) else (if l1 = 0 then ((0 ≤ u.1 271 74) ∧ ((u.1 271 74 < 16000) ∧ (Q (u.1 334 (u.1 271 74)) u))) else (if l1 = 1 then ((0 ≤ u.1 271 74) ∧ ((u.1 271 74 < 16000) ∧ ((rI (u.1 335 (u.1 271 74))) ∧ (Q (u.1 335 (u.1 271 74)) u)))) else (if l1 = 2 then ((0 ≤ u.1 271 74) ∧ ((u.1 271 74 < 16000) ∧ (Q (u.1 333 (u.1 271 74)) u))) else ((rI (u.1 271 75)) ∧ (Q (u.1 271 75) u)))))))))) : cL (d + 2) 281 [.ref 271, iV l1] u Q := by
  refine u_of me_281 (Nat.le_of_ble_eq_true rfl) ?_
  refine u_ld (v := .ref 271) (pc := 0) (dec_at lsk_281 (k := 0) rfl) rfl ?_
  refine u_gZ (z := 73) (pc := 1) (dec_at lsk_281 (k := 1) rfl) f_12_529 sx_271 rfl rfl ?_
  have g1 := h.1
  have h := h.2
  refine u_ifF (pc := 4) (tgt := 11) (dec_at lsk_281 (k := 2) rfl) rfl (c0_ne g1) (fun e2 => ?_) (fun e2 => ?_)
  · have h := ifT e2 h
    refine u_ldc2 (x := (-2)) (pc := 7) (dec_at lsk_281 (k := 3) rfl) con_12_333 (by decide) ?_
    exact u_rL (pc := 10) (dec_at lsk_281 (k := 4) rfl) rfl h
  · have h := ifF e2 h
    refine u_ld (v := iV l1) (pc := 11) (dec_at lsk_281 (k := 5) rfl) rfl ?_
    have g3 := h.1
    have h := h.2
    refine u_i2l (pc := 12) (dec_at lsk_281 (k := 6) rfl) g3 ?_
    refine u_cl (x := 0) (pc := 13) (dec_at lsk_281 (k := 7) rfl) rfl (by decide) ?_
    refine u_ldc2 (x := 3) (pc := 14) (dec_at lsk_281 (k := 8) rfl) con_12_478 (by decide) ?_
    refine u_csI (As := [lV l1, lV 0, lV 3]) (st2 := []) (pc := 17) (dec_at lsk_281 (k := 9) rfl) m_12_250 (Or.inl rfl) rfl (Nat.le_of_ble_eq_true rfl) ?_ (fun _ _ h_ => h_)
    refine u_of me_203 (Nat.le_of_ble_eq_true rfl) ?_
    refine u_ld (v := lV l1) (pc := 0) (dec_at lsk_203 (k := 0) rfl) rfl ?_
    refine u_ld (v := lV 0) (pc := 1) (dec_at lsk_203 (k := 1) rfl) rfl ?_
    refine u_st (st' := [.int (lg_cmp (Int64.ofInt l1) (Int64.ofInt 0))]) (pc := 2) (dec_at lsk_203 (k := 2) rfl) rfl ?_
    refine u_ifT (pc := 3) (tgt := 17) (dec_at lsk_203 (k := 3) rfl) rfl (cl_lt (rl_ri g3) (by decide)) (fun e4 => ?_) (fun e4 => ?_)
    · have h := ifT e4 h
      refine u_ld (v := iV 0) (pc := 17) (dec_at lsk_203 (k := 10) rfl) rfl ?_
      refine u_rZ (pc := 18) (dec_at lsk_203 (k := 11) rfl) rfl (by decide) ?_
      refine u_ifF (pc := 20) (tgt := 27) (dec_at lsk_281 (k := 10) rfl) rfl (c0_ne (by decide)) (fun _ => ?_) (fun e => absurd e (by decide))
      refine u_ldc2 (x := (-1)) (pc := 23) (dec_at lsk_281 (k := 11) rfl) con_12_331 (by decide) ?_
      exact u_rL (pc := 26) (dec_at lsk_281 (k := 12) rfl) rfl h
    · have h := ifF e4 h
      refine u_ld (v := lV l1) (pc := 6) (dec_at lsk_203 (k := 4) rfl) rfl ?_
      refine u_ld (v := lV 3) (pc := 7) (dec_at lsk_203 (k := 5) rfl) rfl ?_
      refine u_st (st' := [.int (lg_cmp (Int64.ofInt l1) (Int64.ofInt 3))]) (pc := 9) (dec_at lsk_203 (k := 6) rfl) rfl ?_
      refine u_ifT (pc := 10) (tgt := 17) (dec_at lsk_203 (k := 7) rfl) rfl (cl_gt (rl_ri g3) (by decide)) (fun e5 => ?_) (fun e5 => ?_)
      · have h := ifT e5 h
        refine u_ld (v := iV 0) (pc := 17) (dec_at lsk_203 (k := 10) rfl) rfl ?_
        refine u_rZ (pc := 18) (dec_at lsk_203 (k := 11) rfl) rfl (by decide) ?_
        refine u_ifF (pc := 20) (tgt := 27) (dec_at lsk_281 (k := 10) rfl) rfl (c0_ne (by decide)) (fun _ => ?_) (fun e => absurd e (by decide))
        refine u_ldc2 (x := (-1)) (pc := 23) (dec_at lsk_281 (k := 11) rfl) con_12_331 (by decide) ?_
        exact u_rL (pc := 26) (dec_at lsk_281 (k := 12) rfl) rfl h
      · have h := ifF e5 h
        refine u_ld (v := iV 1) (pc := 13) (dec_at lsk_203 (k := 8) rfl) rfl ?_
        refine u_goto (pc := 14) (tgt := 18) (dec_at lsk_203 (k := 9) rfl) rfl ?_
        refine u_rZ (pc := 18) (dec_at lsk_203 (k := 11) rfl) rfl (by decide) ?_
        refine u_ifF (pc := 20) (tgt := 27) (dec_at lsk_281 (k := 10) rfl) rfl (c0_ne (by decide)) (fun e => absurd e (by decide)) (fun _ => ?_)
        refine u_ld (v := iV l1) (pc := 27) (dec_at lsk_281 (k := 13) rfl) rfl ?_
        refine u_ifF (pc := 28) (tgt := 43) (dec_at lsk_281 (k := 14) rfl) rfl (c0_ne g3) (fun e6 => ?_) (fun e6 => ?_)
        · have h := ifT e6 h
          refine u_ld (v := .ref 271) (pc := 31) (dec_at lsk_281 (k := 15) rfl) rfl ?_
          refine u_gS (o := 63) (p := 334) (pc := 32) (dec_at lsk_281 (k := 16) rfl) f_12_201 sx_271 rfl rfl ?_
          refine u_ld (v := .ref 271) (pc := 35) (dec_at lsk_281 (k := 17) rfl) rfl ?_
          refine u_gI (z := 74) (pc := 36) (dec_at lsk_281 (k := 18) rfl) f_12_535 sx_271 rfl rfl ?_
          have g7 := h.1
          have h := h.2
          have g8 := h.1
          have h := h.2
          refine u_lald (pc := 39) (dec_at lsk_281 (k := 19) rfl) sx_334 g7 g8 ?_
          refine u_goto (pc := 40) (tgt := 83) (dec_at lsk_281 (k := 20) rfl) rfl ?_
          exact u_rL (pc := 83) (dec_at lsk_281 (k := 43) rfl) rfl h
        · have h := ifF e6 h
          refine u_ld (v := iV l1) (pc := 43) (dec_at lsk_281 (k := 21) rfl) rfl ?_
          refine u_ld (v := iV 1) (pc := 44) (dec_at lsk_281 (k := 22) rfl) rfl ?_
          refine u_icF (pc := 45) (tgt := 61) (dec_at lsk_281 (k := 23) rfl) rfl (ci_ne g3 (by decide)) (fun e9 => ?_) (fun e9 => ?_)
          · have h := ifT e9 h
            refine u_ld (v := .ref 271) (pc := 48) (dec_at lsk_281 (k := 24) rfl) rfl ?_
            refine u_gS (o := 64) (p := 335) (pc := 49) (dec_at lsk_281 (k := 25) rfl) f_12_204 sx_271 rfl rfl ?_
            refine u_ld (v := .ref 271) (pc := 52) (dec_at lsk_281 (k := 26) rfl) rfl ?_
            refine u_gI (z := 74) (pc := 53) (dec_at lsk_281 (k := 27) rfl) f_12_535 sx_271 rfl rfl ?_
            have g10 := h.1
            have h := h.2
            have g11 := h.1
            have h := h.2
            refine u_iald (pc := 56) (dec_at lsk_281 (k := 28) rfl) sx_335 g10 g11 ?_
            have g12 := h.1
            have h := h.2
            refine u_i2l (pc := 57) (dec_at lsk_281 (k := 29) rfl) g12 ?_
            refine u_goto (pc := 58) (tgt := 83) (dec_at lsk_281 (k := 30) rfl) rfl ?_
            exact u_rL (pc := 83) (dec_at lsk_281 (k := 43) rfl) rfl h
          · have h := ifF e9 h
            refine u_ld (v := iV l1) (pc := 61) (dec_at lsk_281 (k := 31) rfl) rfl ?_
            refine u_ld (v := iV 2) (pc := 62) (dec_at lsk_281 (k := 32) rfl) rfl ?_
            refine u_icF (pc := 63) (tgt := 78) (dec_at lsk_281 (k := 33) rfl) rfl (ci_ne g3 (by decide)) (fun e13 => ?_) (fun e13 => ?_)
            · have h := ifT e13 h
              refine u_ld (v := .ref 271) (pc := 66) (dec_at lsk_281 (k := 34) rfl) rfl ?_
              refine u_gS (o := 62) (p := 333) (pc := 67) (dec_at lsk_281 (k := 35) rfl) f_12_198 sx_271 rfl rfl ?_
              refine u_ld (v := .ref 271) (pc := 70) (dec_at lsk_281 (k := 36) rfl) rfl ?_
              refine u_gI (z := 74) (pc := 71) (dec_at lsk_281 (k := 37) rfl) f_12_535 sx_271 rfl rfl ?_
              have g14 := h.1
              have h := h.2
              have g15 := h.1
              have h := h.2
              refine u_lald (pc := 74) (dec_at lsk_281 (k := 38) rfl) sx_333 g14 g15 ?_
              refine u_goto (pc := 75) (tgt := 83) (dec_at lsk_281 (k := 39) rfl) rfl ?_
              exact u_rL (pc := 83) (dec_at lsk_281 (k := 43) rfl) rfl h
            · have h := ifF e13 h
              refine u_ld (v := .ref 271) (pc := 78) (dec_at lsk_281 (k := 40) rfl) rfl ?_
              refine u_gI (z := 75) (pc := 79) (dec_at lsk_281 (k := 41) rfl) f_12_538 sx_271 rfl rfl ?_
              have g16 := h.1
              have h := h.2
              refine u_i2l (pc := 82) (dec_at lsk_281 (k := 42) rfl) g16 ?_
              exact u_rL (pc := 83) (dec_at lsk_281 (k := 43) rfl) rfl h
/-- method 282 -/
def K_282 (d pc : Nat) (lv : ev_L) (st : List Value) (u : uS) (Q : Int → uS → Prop) : Prop := okU d 12 11 false (some .int) prog_14_method_85_code (qI Q) pc lv st u
theorem e_282 {d : Nat} {Q : Int → uS → Prop} {u : uS} {l1 : Int} (h : (rI (u.1 271 73)) ∧ (if u.1 271 73 = 0 then (Q (-2) u) else ((rL l1) ∧ (if l1 < 0 then (Q (-2) u) else ((0 ≤ u.1 271 74) ∧ ((u.1 271 74 < 16000) ∧ ((rL (u.1 334 (u.1 271 74))) ∧ (if l1 < u.1 334 (u.1 271 74) then (K_282 d 38 [.ref 271, .retAddr 0, .retAddr 0, lV l1, .retAddr 0, iV (u.1 271 74), .retAddr 0, .retAddr 0, .retAddr 0, .retAddr 0, .retAddr 0] [] u Q) else (Q (-2) u))))))))) : cI (d + 1) 282 [.ref 271, lV l1] u Q := by
  refine u_of me_282 (Nat.le_of_ble_eq_true rfl) ?_
  refine u_ld (v := .ref 271) (pc := 0) (dec_at lsk_282 (k := 0) rfl) rfl ?_
  refine u_gZ (z := 73) (pc := 1) (dec_at lsk_282 (k := 1) rfl) f_12_529 sx_271 rfl rfl ?_
  have g1 := h.1
  have h := h.2
  refine u_ifT (pc := 4) (tgt := 27) (dec_at lsk_282 (k := 2) rfl) rfl (c0_eq g1) (fun e2 => ?_) (fun e2 => ?_)
  · have h := ifT e2 h
    refine u_c (x := (-2)) (pc := 27) (dec_at lsk_282 (k := 15) rfl) rfl (by decide) ?_
    exact u_rI (pc := 29) (dec_at lsk_282 (k := 16) rfl) rfl h
  · have h := ifF e2 h
    refine u_ld (v := lV l1) (pc := 7) (dec_at lsk_282 (k := 3) rfl) rfl ?_
    refine u_cl (x := 0) (pc := 8) (dec_at lsk_282 (k := 4) rfl) rfl (by decide) ?_
    refine u_st (st' := [.int (lg_cmp (Int64.ofInt l1) (Int64.ofInt 0))]) (pc := 9) (dec_at lsk_282 (k := 5) rfl) rfl ?_
    have g3 := h.1
    have h := h.2
    refine u_ifT (pc := 10) (tgt := 27) (dec_at lsk_282 (k := 6) rfl) rfl (cl_lt g3 (by decide)) (fun e4 => ?_) (fun e4 => ?_)
    · have h := ifT e4 h
      refine u_c (x := (-2)) (pc := 27) (dec_at lsk_282 (k := 15) rfl) rfl (by decide) ?_
      exact u_rI (pc := 29) (dec_at lsk_282 (k := 16) rfl) rfl h
    · have h := ifF e4 h
      refine u_ld (v := lV l1) (pc := 13) (dec_at lsk_282 (k := 7) rfl) rfl ?_
      refine u_ld (v := .ref 271) (pc := 14) (dec_at lsk_282 (k := 8) rfl) rfl ?_
      refine u_gS (o := 63) (p := 334) (pc := 15) (dec_at lsk_282 (k := 9) rfl) f_12_201 sx_271 rfl rfl ?_
      refine u_ld (v := .ref 271) (pc := 18) (dec_at lsk_282 (k := 10) rfl) rfl ?_
      refine u_gI (z := 74) (pc := 19) (dec_at lsk_282 (k := 11) rfl) f_12_535 sx_271 rfl rfl ?_
      have g5 := h.1
      have h := h.2
      have g6 := h.1
      have h := h.2
      refine u_lald (pc := 22) (dec_at lsk_282 (k := 12) rfl) sx_334 g5 g6 ?_
      refine u_st (st' := [.int (lg_cmp (Int64.ofInt l1) (Int64.ofInt (u.1 334 (u.1 271 74))))]) (pc := 23) (dec_at lsk_282 (k := 13) rfl) rfl ?_
      have g7 := h.1
      have h := h.2
      refine u_ifT (pc := 24) (tgt := 30) (dec_at lsk_282 (k := 14) rfl) rfl (cl_lt g3 g7) (fun e8 => ?_) (fun e8 => ?_)
      · have h := ifT e8 h
        refine u_ld (v := lV l1) (pc := 30) (dec_at lsk_282 (k := 17) rfl) rfl ?_
        refine u_sto (lv' := [.ref 271, lV l1, .retAddr 0, lV l1, .retAddr 0, .retAddr 0, .retAddr 0, .retAddr 0, .retAddr 0, .retAddr 0, .retAddr 0]) (pc := 31) (dec_at lsk_282 (k := 18) rfl) rfl ?_
        refine u_ld (v := .ref 271) (pc := 32) (dec_at lsk_282 (k := 19) rfl) rfl ?_
        refine u_gI (z := 74) (pc := 33) (dec_at lsk_282 (k := 20) rfl) f_12_535 sx_271 rfl rfl ?_
        refine u_sto (lv' := [.ref 271, lV l1, .retAddr 0, lV l1, .retAddr 0, iV (u.1 271 74), .retAddr 0, .retAddr 0, .retAddr 0, .retAddr 0, .retAddr 0]) (pc := 36) (dec_at lsk_282 (k := 21) rfl) rfl ?_
        exact u_weak (sbK (sbD (sbK (sbK (sbK (sbK (sbK (sbK (sbK (sbK (sbK sb0))))))))))) h
      · have h := ifF e8 h
        refine u_c (x := (-2)) (pc := 27) (dec_at lsk_282 (k := 15) rfl) rfl (by decide) ?_
        exact u_rI (pc := 29) (dec_at lsk_282 (k := 16) rfl) rfl h
theorem k_282_38 {d : Nat} {Q : Int → uS → Prop} {u : uS} {l3 l5 : Int} (h : K_282 d 45 [.ref 271, .retAddr 0, .retAddr 0, lV l3, .retAddr 0, iV l5, iV (-2), iV 0, .retAddr 0, .retAddr 0, .retAddr 0] [] u Q) : K_282 d 38 [.ref 271, .retAddr 0, .retAddr 0, lV l3, .retAddr 0, iV l5, .retAddr 0, .retAddr 0, .retAddr 0, .retAddr 0, .retAddr 0] [] u Q := by
  unfold K_282
  refine u_c (x := (-2)) (pc := 38) (dec_at lsk_282 (k := 22) rfl) rfl (by decide) ?_
  refine u_sto (lv' := [.ref 271, .retAddr 0, .retAddr 0, lV l3, .retAddr 0, iV l5, iV (-2), .retAddr 0, .retAddr 0, .retAddr 0, .retAddr 0]) (pc := 40) (dec_at lsk_282 (k := 23) rfl) rfl ?_
  refine u_ld (v := iV 0) (pc := 42) (dec_at lsk_282 (k := 24) rfl) rfl ?_
  refine u_sto (lv' := [.ref 271, .retAddr 0, .retAddr 0, lV l3, .retAddr 0, iV l5, iV (-2), iV 0, .retAddr 0, .retAddr 0, .retAddr 0]) (pc := 43) (dec_at lsk_282 (k := 25) rfl) rfl ?_
  exact h
theorem k_282_45 {d : Nat} {Q : Int → uS → Prop} {u : uS} {l3 l5 l6 l7 : Int} (h : (0 ≤ l5) ∧ ((l5 < 16000) ∧ ((0 ≤ u.1 331 l5) ∧ ((u.1 331 l5 < 30) ∧ ((rI l7) ∧ ((rI (u.1 337 (u.1 331 l5))) ∧ (if l7 < u.1 337 (u.1 331 l5) then ((rI l6) ∧ (if l6 = (-2) then (cI d 283 [.ref 271, iV l5, iV l7] u (fun r11 u10 => (rI r11) ∧ (if r11 = (-2) then ((rL l3) ∧ (if l3 < 1 then ((0 ≤ (6 * (u10.1 331 l5)) + l7) ∧ (((6 * (u10.1 331 l5)) + l7 < 180) ∧ (Q (u10.1 338 ((6 * (u10.1 331 l5)) + l7)) u10))) else (K_282 d 45 [.ref 271, .retAddr 0, .retAddr 0, lV (l3 - 1), .retAddr 0, iV l5, iV l6, iV (l7 + 1), .retAddr 0, .retAddr 0, .retAddr 0] [] u10 Q))) else ((0 ≤ r11) ∧ ((r11 < 16000) ∧ ((rL l3) ∧ ((rL (u10.1 334 r11)) ∧ (if l3 < u10.1 334 r11 then (K_282 d 45 [.ref 271, .retAddr 0, .retAddr 0, lV l3, .retAddr 0, iV l5, iV r11, iV (l7 + 1), .retAddr 0, .retAddr 0, .retAddr 0] [] u10 Q) else (K_282 d 45 [.ref 271, .retAddr 0, .retAddr 0, lV (l3 - (u10.1 334 r11)), .retAddr 0, iV l5, iV l6, iV (l7 + 1), .retAddr 0, .retAddr 0, .retAddr 0] [] u10 Q))))))))) else (K_282 d 38 [.ref 271, .retAddr 0, .retAddr 0, lV l3, .retAddr 0, iV l6, .retAddr 0, .retAddr 0, .retAddr 0, .retAddr 0, .retAddr 0] [] u Q))) else ((rI l6) ∧ (if l6 = (-2) then (Q (-2) u) else (K_282 d 38 [.ref 271, .retAddr 0, .retAddr 0, lV l3, .retAddr 0, iV l6, .retAddr 0, .retAddr 0, .retAddr 0, .retAddr 0, .retAddr 0] [] u Q)))))))))) : K_282 d 45 [.ref 271, .retAddr 0, .retAddr 0, lV l3, .retAddr 0, iV l5, iV l6, iV l7, .retAddr 0, .retAddr 0, .retAddr 0] [] u Q := by
  unfold K_282
  refine u_ld (v := iV l7) (pc := 45) (dec_at lsk_282 (k := 26) rfl) rfl ?_
  refine u_ld (v := .ref 271) (pc := 47) (dec_at lsk_282 (k := 27) rfl) rfl ?_
  refine u_gS (o := 66) (p := 337) (pc := 48) (dec_at lsk_282 (k := 28) rfl) f_12_210 sx_271 rfl rfl ?_
  refine u_ld (v := .ref 271) (pc := 51) (dec_at lsk_282 (k := 29) rfl) rfl ?_
  refine u_gS (o := 60) (p := 331) (pc := 52) (dec_at lsk_282 (k := 30) rfl) f_12_191 sx_271 rfl rfl ?_
  refine u_ld (v := iV l5) (pc := 55) (dec_at lsk_282 (k := 31) rfl) rfl ?_
  have g1 := h.1
  have h := h.2
  have g2 := h.1
  have h := h.2
  refine u_iald (pc := 57) (dec_at lsk_282 (k := 32) rfl) sx_331 g1 g2 ?_
  have g3 := h.1
  have h := h.2
  have g4 := h.1
  have h := h.2
  refine u_iald (pc := 58) (dec_at lsk_282 (k := 33) rfl) sx_337 g3 g4 ?_
  have g5 := h.1
  have h := h.2
  have g6 := h.1
  have h := h.2
  refine u_icF (pc := 59) (tgt := 150) (dec_at lsk_282 (k := 34) rfl) rfl (ci_ge g5 g6) (fun e7 => ?_) (fun e7 => ?_)
  · have h := ifT e7 h
    refine u_ld (v := iV l6) (pc := 62) (dec_at lsk_282 (k := 35) rfl) rfl ?_
    refine u_c (x := (-2)) (pc := 64) (dec_at lsk_282 (k := 36) rfl) rfl (by decide) ?_
    have g8 := h.1
    have h := h.2
    refine u_icF (pc := 66) (tgt := 150) (dec_at lsk_282 (k := 37) rfl) rfl (ci_ne g8 (by decide)) (fun e9 => ?_) (fun e9 => ?_)
    · have h := ifT e9 h
      refine u_ld (v := .ref 271) (pc := 69) (dec_at lsk_282 (k := 38) rfl) rfl ?_
      refine u_ld (v := iV l5) (pc := 70) (dec_at lsk_282 (k := 39) rfl) rfl ?_
      refine u_ld (v := iV l7) (pc := 72) (dec_at lsk_282 (k := 40) rfl) rfl ?_
      refine u_cvI (As := [iV l5, iV l7]) (rb := 271) (st2 := []) (pc := 74) (dec_at lsk_282 (k := 41) rfl) m_12_541 (Or.inl rfl) rfl (Nat.le_of_ble_eq_true rfl) sx_271 me_283 rfl h (fun r11 u10 h => ?_)
      refine u_sto (lv' := [.ref 271, .retAddr 0, .retAddr 0, lV l3, .retAddr 0, iV l5, iV l6, iV l7, iV r11, .retAddr 0, .retAddr 0]) (pc := 77) (dec_at lsk_282 (k := 42) rfl) rfl ?_
      refine u_ld (v := iV r11) (pc := 79) (dec_at lsk_282 (k := 43) rfl) rfl ?_
      refine u_c (x := (-2)) (pc := 81) (dec_at lsk_282 (k := 44) rfl) rfl (by decide) ?_
      have g12 := h.1
      have h := h.2
      refine u_icF (pc := 83) (tgt := 90) (dec_at lsk_282 (k := 45) rfl) rfl (ci_ne g12 (by decide)) (fun e13 => ?_) (fun e13 => ?_)
      · have h := ifT e13 h
        refine u_cl (x := 1) (pc := 86) (dec_at lsk_282 (k := 46) rfl) rfl (by decide) ?_
        refine u_goto (pc := 87) (tgt := 97) (dec_at lsk_282 (k := 47) rfl) rfl ?_
        refine u_sto (lv' := [.ref 271, .retAddr 0, .retAddr 0, lV l3, .retAddr 0, iV l5, iV l6, iV l7, iV r11, lV 1, .retAddr 0]) (pc := 97) (dec_at lsk_282 (k := 52) rfl) rfl ?_
        refine u_ld (v := lV l3) (pc := 99) (dec_at lsk_282 (k := 53) rfl) rfl ?_
        refine u_ld (v := lV 1) (pc := 100) (dec_at lsk_282 (k := 54) rfl) rfl ?_
        refine u_st (st' := [.int (lg_cmp (Int64.ofInt l3) (Int64.ofInt 1))]) (pc := 102) (dec_at lsk_282 (k := 55) rfl) rfl ?_
        have g14 := h.1
        have h := h.2
        refine u_ifF (pc := 103) (tgt := 139) (dec_at lsk_282 (k := 56) rfl) rfl (cl_ge g14 (by decide)) (fun e15 => ?_) (fun e15 => ?_)
        · have h := ifT e15 h
          refine u_ld (v := iV r11) (pc := 106) (dec_at lsk_282 (k := 57) rfl) rfl ?_
          refine u_c (x := (-2)) (pc := 108) (dec_at lsk_282 (k := 58) rfl) rfl (by decide) ?_
          refine u_icF (pc := 110) (tgt := 132) (dec_at lsk_282 (k := 59) rfl) rfl (ci_ne g12 (by decide)) (fun _ => ?_) (fun e16 => absurd e13 e16)
          refine u_ld (v := .ref 271) (pc := 113) (dec_at lsk_282 (k := 60) rfl) rfl ?_
          refine u_gS (o := 67) (p := 338) (pc := 114) (dec_at lsk_282 (k := 61) rfl) f_12_213 sx_271 rfl rfl ?_
          refine u_c (x := 6) (pc := 117) (dec_at lsk_282 (k := 62) rfl) rfl (by decide) ?_
          refine u_ld (v := .ref 271) (pc := 119) (dec_at lsk_282 (k := 63) rfl) rfl ?_
          refine u_gS (o := 60) (p := 331) (pc := 120) (dec_at lsk_282 (k := 64) rfl) f_12_191 sx_271 rfl rfl ?_
          refine u_ld (v := iV l5) (pc := 123) (dec_at lsk_282 (k := 65) rfl) rfl ?_
          refine u_iald (pc := 125) (dec_at lsk_282 (k := 66) rfl) sx_331 g1 g2 ?_
          refine u_imul (pc := 126) (dec_at lsk_282 (k := 67) rfl) ?_
          refine u_ld (v := iV l7) (pc := 127) (dec_at lsk_282 (k := 68) rfl) rfl ?_
          refine u_iadd (pc := 129) (dec_at lsk_282 (k := 69) rfl) ?_
          have g17 := h.1
          have h := h.2
          have g18 := h.1
          have h := h.2
          refine u_iald (pc := 130) (dec_at lsk_282 (k := 70) rfl) sx_338 g17 g18 ?_
          exact u_rI (pc := 131) (dec_at lsk_282 (k := 71) rfl) rfl h
        · have h := ifF e15 h
          refine u_ld (v := lV l3) (pc := 139) (dec_at lsk_282 (k := 75) rfl) rfl ?_
          refine u_ld (v := lV 1) (pc := 140) (dec_at lsk_282 (k := 76) rfl) rfl ?_
          refine u_lsub (pc := 142) (dec_at lsk_282 (k := 77) rfl) ?_
          refine u_sto (lv' := [.ref 271, .retAddr 0, .retAddr 0, lV (l3 - 1), .retAddr 0, iV l5, iV l6, iV l7, iV r11, lV 1, .retAddr 0]) (pc := 143) (dec_at lsk_282 (k := 78) rfl) rfl ?_
          refine u_inc (lv' := [.ref 271, .retAddr 0, .retAddr 0, lV (l3 - 1), .retAddr 0, iV l5, iV l6, iV (l7 + 1), iV r11, lV 1, .retAddr 0]) (pc := 144) (dec_at lsk_282 (k := 79) rfl) rfl (by decide) rfl ?_
          refine u_goto (pc := 147) (tgt := 45) (dec_at lsk_282 (k := 80) rfl) rfl ?_
          exact u_weak (sbK (sbK (sbK (sbK (sbK (sbK (sbK (sbK (sbD (sbD (sbK sb0))))))))))) h
      · have h := ifF e13 h
        refine u_ld (v := .ref 271) (pc := 90) (dec_at lsk_282 (k := 48) rfl) rfl ?_
        refine u_gS (o := 63) (p := 334) (pc := 91) (dec_at lsk_282 (k := 49) rfl) f_12_201 sx_271 rfl rfl ?_
        refine u_ld (v := iV r11) (pc := 94) (dec_at lsk_282 (k := 50) rfl) rfl ?_
        have g19 := h.1
        have h := h.2
        have g20 := h.1
        have h := h.2
        refine u_lald (pc := 96) (dec_at lsk_282 (k := 51) rfl) sx_334 g19 g20 ?_
        refine u_sto (lv' := [.ref 271, .retAddr 0, .retAddr 0, lV l3, .retAddr 0, iV l5, iV l6, iV l7, iV r11, lV (u10.1 334 r11), .retAddr 0]) (pc := 97) (dec_at lsk_282 (k := 52) rfl) rfl ?_
        refine u_ld (v := lV l3) (pc := 99) (dec_at lsk_282 (k := 53) rfl) rfl ?_
        refine u_ld (v := lV (u10.1 334 r11)) (pc := 100) (dec_at lsk_282 (k := 54) rfl) rfl ?_
        refine u_st (st' := [.int (lg_cmp (Int64.ofInt l3) (Int64.ofInt (u10.1 334 r11)))]) (pc := 102) (dec_at lsk_282 (k := 55) rfl) rfl ?_
        have g21 := h.1
        have h := h.2
        have g22 := h.1
        have h := h.2
        refine u_ifF (pc := 103) (tgt := 139) (dec_at lsk_282 (k := 56) rfl) rfl (cl_ge g21 g22) (fun e23 => ?_) (fun e23 => ?_)
        · have h := ifT e23 h
          refine u_ld (v := iV r11) (pc := 106) (dec_at lsk_282 (k := 57) rfl) rfl ?_
          refine u_c (x := (-2)) (pc := 108) (dec_at lsk_282 (k := 58) rfl) rfl (by decide) ?_
          refine u_icF (pc := 110) (tgt := 132) (dec_at lsk_282 (k := 59) rfl) rfl (ci_ne g12 (by decide)) (fun e24 => absurd e24 e13) (fun _ => ?_)
          refine u_ld (v := iV r11) (pc := 132) (dec_at lsk_282 (k := 72) rfl) rfl ?_
          refine u_sto (lv' := [.ref 271, .retAddr 0, .retAddr 0, lV l3, .retAddr 0, iV l5, iV r11, iV l7, iV r11, lV (u10.1 334 r11), .retAddr 0]) (pc := 134) (dec_at lsk_282 (k := 73) rfl) rfl ?_
          refine u_goto (pc := 136) (tgt := 144) (dec_at lsk_282 (k := 74) rfl) rfl ?_
          refine u_inc (lv' := [.ref 271, .retAddr 0, .retAddr 0, lV l3, .retAddr 0, iV l5, iV r11, iV (l7 + 1), iV r11, lV (u10.1 334 r11), .retAddr 0]) (pc := 144) (dec_at lsk_282 (k := 79) rfl) rfl (by decide) rfl ?_
          refine u_goto (pc := 147) (tgt := 45) (dec_at lsk_282 (k := 80) rfl) rfl ?_
          exact u_weak (sbK (sbK (sbK (sbK (sbK (sbK (sbK (sbK (sbD (sbD (sbK sb0))))))))))) h
        · have h := ifF e23 h
          refine u_ld (v := lV l3) (pc := 139) (dec_at lsk_282 (k := 75) rfl) rfl ?_
          refine u_ld (v := lV (u10.1 334 r11)) (pc := 140) (dec_at lsk_282 (k := 76) rfl) rfl ?_
          refine u_lsub (pc := 142) (dec_at lsk_282 (k := 77) rfl) ?_
          refine u_sto (lv' := [.ref 271, .retAddr 0, .retAddr 0, lV (l3 - (u10.1 334 r11)), .retAddr 0, iV l5, iV l6, iV l7, iV r11, lV (u10.1 334 r11), .retAddr 0]) (pc := 143) (dec_at lsk_282 (k := 78) rfl) rfl ?_
          refine u_inc (lv' := [.ref 271, .retAddr 0, .retAddr 0, lV (l3 - (u10.1 334 r11)), .retAddr 0, iV l5, iV l6, iV (l7 + 1), iV r11, lV (u10.1 334 r11), .retAddr 0]) (pc := 144) (dec_at lsk_282 (k := 79) rfl) rfl (by decide) rfl ?_
          refine u_goto (pc := 147) (tgt := 45) (dec_at lsk_282 (k := 80) rfl) rfl ?_
          exact u_weak (sbK (sbK (sbK (sbK (sbK (sbK (sbK (sbK (sbD (sbD (sbK sb0))))))))))) h
    · have h := ifF e9 h
      refine u_ld (v := iV l6) (pc := 150) (dec_at lsk_282 (k := 81) rfl) rfl ?_
      refine u_c (x := (-2)) (pc := 152) (dec_at lsk_282 (k := 82) rfl) rfl (by decide) ?_
      refine u_icF (pc := 154) (tgt := 160) (dec_at lsk_282 (k := 83) rfl) rfl (ci_ne g8 (by decide)) (fun e25 => absurd e25 e9) (fun _ => ?_)
      refine u_ld (v := iV l6) (pc := 160) (dec_at lsk_282 (k := 86) rfl) rfl ?_
      refine u_sto (lv' := [.ref 271, .retAddr 0, .retAddr 0, lV l3, .retAddr 0, iV l6, iV l6, iV l7, .retAddr 0, .retAddr 0, .retAddr 0]) (pc := 162) (dec_at lsk_282 (k := 87) rfl) rfl ?_
      refine u_goto (pc := 164) (tgt := 38) (dec_at lsk_282 (k := 88) rfl) rfl ?_
      exact u_weak (sbK (sbK (sbK (sbK (sbK (sbK (sbD (sbD (sbK (sbK (sbK sb0))))))))))) h
  · have h := ifF e7 h
    refine u_ld (v := iV l6) (pc := 150) (dec_at lsk_282 (k := 81) rfl) rfl ?_
    refine u_c (x := (-2)) (pc := 152) (dec_at lsk_282 (k := 82) rfl) rfl (by decide) ?_
    have g26 := h.1
    have h := h.2
    refine u_icF (pc := 154) (tgt := 160) (dec_at lsk_282 (k := 83) rfl) rfl (ci_ne g26 (by decide)) (fun e27 => ?_) (fun e27 => ?_)
    · have h := ifT e27 h
      refine u_c (x := (-2)) (pc := 157) (dec_at lsk_282 (k := 84) rfl) rfl (by decide) ?_
      exact u_rI (pc := 159) (dec_at lsk_282 (k := 85) rfl) rfl h
    · have h := ifF e27 h
      refine u_ld (v := iV l6) (pc := 160) (dec_at lsk_282 (k := 86) rfl) rfl ?_
      refine u_sto (lv' := [.ref 271, .retAddr 0, .retAddr 0, lV l3, .retAddr 0, iV l6, iV l6, iV l7, .retAddr 0, .retAddr 0, .retAddr 0]) (pc := 162) (dec_at lsk_282 (k := 87) rfl) rfl ?_
      refine u_goto (pc := 164) (tgt := 38) (dec_at lsk_282 (k := 88) rfl) rfl ?_
      exact u_weak (sbK (sbK (sbK (sbK (sbK (sbK (sbD (sbD (sbK (sbK (sbK sb0))))))))))) h
/-- method 283 -/
def K_283 (d pc : Nat) (lv : ev_L) (st : List Value) (u : uS) (Q : Int → uS → Prop) : Prop := okU d 12 4 false (some .int) prog_14_method_84_code (qI Q) pc lv st u
theorem e_283 {d : Nat} {Q : Int → uS → Prop} {u : uS} {l1 l2 : Int} (h : (0 ≤ l1) ∧ ((l1 < 16000) ∧ ((0 ≤ (6 * (u.1 331 l1)) + l2) ∧ (((6 * (u.1 331 l1)) + l2 < 180) ∧ ((rI (u.1 338 ((6 * (u.1 331 l1)) + l2))) ∧ (if u.1 338 ((6 * (u.1 331 l1)) + l2) < 100 then (Q (-2) u) else ((0 ≤ (7 * l1) + l2) ∧ (((7 * l1) + l2 < 112000) ∧ ((0 ≤ ((7 * l1) + l2) + 1) ∧ ((((7 * l1) + l2) + 1 < 112000) ∧ (Q ((((10 * (u.1 332 ((7 * l1) + l2))) + ((u.1 338 ((6 * (u.1 331 l1)) + l2)) - 100)) * 40) + (u.1 332 (((7 * l1) + l2) + 1))) u))))))))))) : cI (d + 2) 283 [.ref 271, iV l1, iV l2] u Q := by
  refine u_of me_283 (Nat.le_of_ble_eq_true rfl) ?_
  refine u_ld (v := .ref 271) (pc := 0) (dec_at lsk_283 (k := 0) rfl) rfl ?_
  refine u_gS (o := 67) (p := 338) (pc := 1) (dec_at lsk_283 (k := 1) rfl) f_12_213 sx_271 rfl rfl ?_
  refine u_c (x := 6) (pc := 4) (dec_at lsk_283 (k := 2) rfl) rfl (by decide) ?_
  refine u_ld (v := .ref 271) (pc := 6) (dec_at lsk_283 (k := 3) rfl) rfl ?_
  refine u_gS (o := 60) (p := 331) (pc := 7) (dec_at lsk_283 (k := 4) rfl) f_12_191 sx_271 rfl rfl ?_
  refine u_ld (v := iV l1) (pc := 10) (dec_at lsk_283 (k := 5) rfl) rfl ?_
  have g1 := h.1
  have h := h.2
  have g2 := h.1
  have h := h.2
  refine u_iald (pc := 11) (dec_at lsk_283 (k := 6) rfl) sx_331 g1 g2 ?_
  refine u_imul (pc := 12) (dec_at lsk_283 (k := 7) rfl) ?_
  refine u_ld (v := iV l2) (pc := 13) (dec_at lsk_283 (k := 8) rfl) rfl ?_
  refine u_iadd (pc := 14) (dec_at lsk_283 (k := 9) rfl) ?_
  have g3 := h.1
  have h := h.2
  have g4 := h.1
  have h := h.2
  refine u_iald (pc := 15) (dec_at lsk_283 (k := 10) rfl) sx_338 g3 g4 ?_
  refine u_sto (lv' := [.ref 271, iV l1, iV l2, iV (u.1 338 ((6 * (u.1 331 l1)) + l2))]) (pc := 16) (dec_at lsk_283 (k := 11) rfl) rfl ?_
  refine u_ld (v := iV (u.1 338 ((6 * (u.1 331 l1)) + l2))) (pc := 17) (dec_at lsk_283 (k := 12) rfl) rfl ?_
  refine u_c (x := 100) (pc := 18) (dec_at lsk_283 (k := 13) rfl) rfl (by decide) ?_
  have g5 := h.1
  have h := h.2
  refine u_icF (pc := 20) (tgt := 28) (dec_at lsk_283 (k := 14) rfl) rfl (ci_ge g5 (by decide)) (fun e6 => ?_) (fun e6 => ?_)
  · have h := ifT e6 h
    refine u_c (x := (-2)) (pc := 23) (dec_at lsk_283 (k := 15) rfl) rfl (by decide) ?_
    refine u_goto (pc := 25) (tgt := 59) (dec_at lsk_283 (k := 16) rfl) rfl ?_
    exact u_rI (pc := 59) (dec_at lsk_283 (k := 39) rfl) rfl h
  · have h := ifF e6 h
    refine u_ld (v := .ref 271) (pc := 28) (dec_at lsk_283 (k := 17) rfl) rfl ?_
    refine u_gS (o := 61) (p := 332) (pc := 29) (dec_at lsk_283 (k := 18) rfl) f_12_195 sx_271 rfl rfl ?_
    refine u_c (x := 7) (pc := 32) (dec_at lsk_283 (k := 19) rfl) rfl (by decide) ?_
    refine u_ld (v := iV l1) (pc := 34) (dec_at lsk_283 (k := 20) rfl) rfl ?_
    refine u_imul (pc := 35) (dec_at lsk_283 (k := 21) rfl) ?_
    refine u_ld (v := iV l2) (pc := 36) (dec_at lsk_283 (k := 22) rfl) rfl ?_
    refine u_iadd (pc := 37) (dec_at lsk_283 (k := 23) rfl) ?_
    have g7 := h.1
    have h := h.2
    have g8 := h.1
    have h := h.2
    refine u_iald (pc := 38) (dec_at lsk_283 (k := 24) rfl) sx_332 g7 g8 ?_
    refine u_ld (v := iV (u.1 338 ((6 * (u.1 331 l1)) + l2))) (pc := 39) (dec_at lsk_283 (k := 25) rfl) rfl ?_
    refine u_c (x := 100) (pc := 40) (dec_at lsk_283 (k := 26) rfl) rfl (by decide) ?_
    refine u_isub (pc := 42) (dec_at lsk_283 (k := 27) rfl) ?_
    refine u_ld (v := .ref 271) (pc := 43) (dec_at lsk_283 (k := 28) rfl) rfl ?_
    refine u_gS (o := 61) (p := 332) (pc := 44) (dec_at lsk_283 (k := 29) rfl) f_12_195 sx_271 rfl rfl ?_
    refine u_c (x := 7) (pc := 47) (dec_at lsk_283 (k := 30) rfl) rfl (by decide) ?_
    refine u_ld (v := iV l1) (pc := 49) (dec_at lsk_283 (k := 31) rfl) rfl ?_
    refine u_imul (pc := 50) (dec_at lsk_283 (k := 32) rfl) ?_
    refine u_ld (v := iV l2) (pc := 51) (dec_at lsk_283 (k := 33) rfl) rfl ?_
    refine u_iadd (pc := 52) (dec_at lsk_283 (k := 34) rfl) ?_
    refine u_ld (v := iV 1) (pc := 53) (dec_at lsk_283 (k := 35) rfl) rfl ?_
    refine u_iadd (pc := 54) (dec_at lsk_283 (k := 36) rfl) ?_
    have g9 := h.1
    have h := h.2
    have g10 := h.1
    have h := h.2
    refine u_iald (pc := 55) (dec_at lsk_283 (k := 37) rfl) sx_332 g9 g10 ?_
    refine u_csI (As := [iV (u.1 332 ((7 * l1) + l2)), iV ((u.1 338 ((6 * (u.1 331 l1)) + l2)) - 100), iV (u.1 332 (((7 * l1) + l2) + 1))]) (st2 := []) (pc := 56) (dec_at lsk_283 (k := 38) rfl) m_12_494 (Or.inl rfl) rfl (Nat.le_of_ble_eq_true rfl) ?_ (fun _ _ h_ => h_)
    refine u_of me_274 (Nat.le_of_ble_eq_true rfl) ?_
    refine u_c (x := 10) (pc := 0) (dec_at lsk_274 (k := 0) rfl) rfl (by decide) ?_
    refine u_ld (v := iV (u.1 332 ((7 * l1) + l2))) (pc := 2) (dec_at lsk_274 (k := 1) rfl) rfl ?_
    refine u_imul (pc := 3) (dec_at lsk_274 (k := 2) rfl) ?_
    refine u_ld (v := iV ((u.1 338 ((6 * (u.1 331 l1)) + l2)) - 100)) (pc := 4) (dec_at lsk_274 (k := 3) rfl) rfl ?_
    refine u_iadd (pc := 5) (dec_at lsk_274 (k := 4) rfl) ?_
    refine u_c (x := 40) (pc := 6) (dec_at lsk_274 (k := 5) rfl) rfl (by decide) ?_
    refine u_imul (pc := 8) (dec_at lsk_274 (k := 6) rfl) ?_
    refine u_ld (v := iV (u.1 332 (((7 * l1) + l2) + 1))) (pc := 9) (dec_at lsk_274 (k := 7) rfl) rfl ?_
    refine u_iadd (pc := 10) (dec_at lsk_274 (k := 8) rfl) ?_
    refine u_rI (pc := 11) (dec_at lsk_274 (k := 9) rfl) rfl ?_
    exact u_rI (pc := 59) (dec_at lsk_283 (k := 39) rfl) rfl h
/-- method 284 -/
def K_284 (d pc : Nat) (lv : ev_L) (st : List Value) (u : uS) (Q : Int → uS → Prop) : Prop := okU d 12 12 false (some .long) prog_14_method_86_code (qL Q) pc lv st u
theorem e_284 {d : Nat} {Q : Int → uS → Prop} {u : uS} {l1 l3 : Int} (h : (rI (u.1 271 73)) ∧ (if u.1 271 73 = 0 then (Q (-2) u) else ((rL l1) ∧ (if l1 < 0 then (Q (-2) u) else ((0 ≤ u.1 271 74) ∧ ((u.1 271 74 < 16000) ∧ ((rL (u.1 333 (u.1 271 74))) ∧ (if l1 < u.1 333 (u.1 271 74) then ((rI l3) ∧ (if l3 < 0 then (Q (-1) u) else (if 6 < l3 then (Q (-1) u) else (K_284 (d + 1) 59 [.ref 271, .retAddr 0, .retAddr 0, iV l3, lV l1, .retAddr 0, lV 0, .retAddr 0, iV (u.1 271 74), .retAddr 0, .retAddr 0, .retAddr 0] [] u Q)))) else (Q (-2) u))))))))) : cL (d + 2) 284 [.ref 271, lV l1, iV l3] u Q := by
  refine u_of me_284 (Nat.le_of_ble_eq_true rfl) ?_
  refine u_ld (v := .ref 271) (pc := 0) (dec_at lsk_284 (k := 0) rfl) rfl ?_
  refine u_gZ (z := 73) (pc := 1) (dec_at lsk_284 (k := 1) rfl) f_12_529 sx_271 rfl rfl ?_
  have g1 := h.1
  have h := h.2
  refine u_ifT (pc := 4) (tgt := 27) (dec_at lsk_284 (k := 2) rfl) rfl (c0_eq g1) (fun e2 => ?_) (fun e2 => ?_)
  · have h := ifT e2 h
    refine u_ldc2 (x := (-2)) (pc := 27) (dec_at lsk_284 (k := 15) rfl) con_12_333 (by decide) ?_
    exact u_rL (pc := 30) (dec_at lsk_284 (k := 16) rfl) rfl h
  · have h := ifF e2 h
    refine u_ld (v := lV l1) (pc := 7) (dec_at lsk_284 (k := 3) rfl) rfl ?_
    refine u_cl (x := 0) (pc := 8) (dec_at lsk_284 (k := 4) rfl) rfl (by decide) ?_
    refine u_st (st' := [.int (lg_cmp (Int64.ofInt l1) (Int64.ofInt 0))]) (pc := 9) (dec_at lsk_284 (k := 5) rfl) rfl ?_
    have g3 := h.1
    have h := h.2
    refine u_ifT (pc := 10) (tgt := 27) (dec_at lsk_284 (k := 6) rfl) rfl (cl_lt g3 (by decide)) (fun e4 => ?_) (fun e4 => ?_)
    · have h := ifT e4 h
      refine u_ldc2 (x := (-2)) (pc := 27) (dec_at lsk_284 (k := 15) rfl) con_12_333 (by decide) ?_
      exact u_rL (pc := 30) (dec_at lsk_284 (k := 16) rfl) rfl h
    · have h := ifF e4 h
      refine u_ld (v := lV l1) (pc := 13) (dec_at lsk_284 (k := 7) rfl) rfl ?_
      refine u_ld (v := .ref 271) (pc := 14) (dec_at lsk_284 (k := 8) rfl) rfl ?_
      refine u_gS (o := 62) (p := 333) (pc := 15) (dec_at lsk_284 (k := 9) rfl) f_12_198 sx_271 rfl rfl ?_
      refine u_ld (v := .ref 271) (pc := 18) (dec_at lsk_284 (k := 10) rfl) rfl ?_
      refine u_gI (z := 74) (pc := 19) (dec_at lsk_284 (k := 11) rfl) f_12_535 sx_271 rfl rfl ?_
      have g5 := h.1
      have h := h.2
      have g6 := h.1
      have h := h.2
      refine u_lald (pc := 22) (dec_at lsk_284 (k := 12) rfl) sx_333 g5 g6 ?_
      refine u_st (st' := [.int (lg_cmp (Int64.ofInt l1) (Int64.ofInt (u.1 333 (u.1 271 74))))]) (pc := 23) (dec_at lsk_284 (k := 13) rfl) rfl ?_
      have g7 := h.1
      have h := h.2
      refine u_ifT (pc := 24) (tgt := 31) (dec_at lsk_284 (k := 14) rfl) rfl (cl_lt g3 g7) (fun e8 => ?_) (fun e8 => ?_)
      · have h := ifT e8 h
        refine u_ld (v := iV l3) (pc := 31) (dec_at lsk_284 (k := 17) rfl) rfl ?_
        have g9 := h.1
        have h := h.2
        refine u_i2l (pc := 32) (dec_at lsk_284 (k := 18) rfl) g9 ?_
        refine u_cl (x := 0) (pc := 33) (dec_at lsk_284 (k := 19) rfl) rfl (by decide) ?_
        refine u_ldc2 (x := 6) (pc := 34) (dec_at lsk_284 (k := 20) rfl) con_12_544 (by decide) ?_
        refine u_csI (As := [lV l3, lV 0, lV 6]) (st2 := []) (pc := 37) (dec_at lsk_284 (k := 21) rfl) m_12_250 (Or.inl rfl) rfl (Nat.le_of_ble_eq_true rfl) ?_ (fun _ _ h_ => h_)
        refine u_of me_203 (Nat.le_of_ble_eq_true rfl) ?_
        refine u_ld (v := lV l3) (pc := 0) (dec_at lsk_203 (k := 0) rfl) rfl ?_
        refine u_ld (v := lV 0) (pc := 1) (dec_at lsk_203 (k := 1) rfl) rfl ?_
        refine u_st (st' := [.int (lg_cmp (Int64.ofInt l3) (Int64.ofInt 0))]) (pc := 2) (dec_at lsk_203 (k := 2) rfl) rfl ?_
        refine u_ifT (pc := 3) (tgt := 17) (dec_at lsk_203 (k := 3) rfl) rfl (cl_lt (rl_ri g9) (by decide)) (fun e10 => ?_) (fun e10 => ?_)
        · have h := ifT e10 h
          refine u_ld (v := iV 0) (pc := 17) (dec_at lsk_203 (k := 10) rfl) rfl ?_
          refine u_rZ (pc := 18) (dec_at lsk_203 (k := 11) rfl) rfl (by decide) ?_
          refine u_ifF (pc := 40) (tgt := 47) (dec_at lsk_284 (k := 22) rfl) rfl (c0_ne (by decide)) (fun _ => ?_) (fun e => absurd e (by decide))
          refine u_ldc2 (x := (-1)) (pc := 43) (dec_at lsk_284 (k := 23) rfl) con_12_331 (by decide) ?_
          exact u_rL (pc := 46) (dec_at lsk_284 (k := 24) rfl) rfl h
        · have h := ifF e10 h
          refine u_ld (v := lV l3) (pc := 6) (dec_at lsk_203 (k := 4) rfl) rfl ?_
          refine u_ld (v := lV 6) (pc := 7) (dec_at lsk_203 (k := 5) rfl) rfl ?_
          refine u_st (st' := [.int (lg_cmp (Int64.ofInt l3) (Int64.ofInt 6))]) (pc := 9) (dec_at lsk_203 (k := 6) rfl) rfl ?_
          refine u_ifT (pc := 10) (tgt := 17) (dec_at lsk_203 (k := 7) rfl) rfl (cl_gt (rl_ri g9) (by decide)) (fun e11 => ?_) (fun e11 => ?_)
          · have h := ifT e11 h
            refine u_ld (v := iV 0) (pc := 17) (dec_at lsk_203 (k := 10) rfl) rfl ?_
            refine u_rZ (pc := 18) (dec_at lsk_203 (k := 11) rfl) rfl (by decide) ?_
            refine u_ifF (pc := 40) (tgt := 47) (dec_at lsk_284 (k := 22) rfl) rfl (c0_ne (by decide)) (fun _ => ?_) (fun e => absurd e (by decide))
            refine u_ldc2 (x := (-1)) (pc := 43) (dec_at lsk_284 (k := 23) rfl) con_12_331 (by decide) ?_
            exact u_rL (pc := 46) (dec_at lsk_284 (k := 24) rfl) rfl h
          · have h := ifF e11 h
            refine u_ld (v := iV 1) (pc := 13) (dec_at lsk_203 (k := 8) rfl) rfl ?_
            refine u_goto (pc := 14) (tgt := 18) (dec_at lsk_203 (k := 9) rfl) rfl ?_
            refine u_rZ (pc := 18) (dec_at lsk_203 (k := 11) rfl) rfl (by decide) ?_
            refine u_ifF (pc := 40) (tgt := 47) (dec_at lsk_284 (k := 22) rfl) rfl (c0_ne (by decide)) (fun e => absurd e (by decide)) (fun _ => ?_)
            refine u_ld (v := lV l1) (pc := 47) (dec_at lsk_284 (k := 25) rfl) rfl ?_
            refine u_sto (lv' := [.ref 271, lV l1, .retAddr 0, iV l3, lV l1, .retAddr 0, .retAddr 0, .retAddr 0, .retAddr 0, .retAddr 0, .retAddr 0, .retAddr 0]) (pc := 48) (dec_at lsk_284 (k := 26) rfl) rfl ?_
            refine u_cl (x := 0) (pc := 50) (dec_at lsk_284 (k := 27) rfl) rfl (by decide) ?_
            refine u_sto (lv' := [.ref 271, lV l1, .retAddr 0, iV l3, lV l1, .retAddr 0, lV 0, .retAddr 0, .retAddr 0, .retAddr 0, .retAddr 0, .retAddr 0]) (pc := 51) (dec_at lsk_284 (k := 28) rfl) rfl ?_
            refine u_ld (v := .ref 271) (pc := 53) (dec_at lsk_284 (k := 29) rfl) rfl ?_
            refine u_gI (z := 74) (pc := 54) (dec_at lsk_284 (k := 30) rfl) f_12_535 sx_271 rfl rfl ?_
            refine u_sto (lv' := [.ref 271, lV l1, .retAddr 0, iV l3, lV l1, .retAddr 0, lV 0, .retAddr 0, iV (u.1 271 74), .retAddr 0, .retAddr 0, .retAddr 0]) (pc := 57) (dec_at lsk_284 (k := 31) rfl) rfl ?_
            exact u_weak (sbK (sbD (sbK (sbK (sbK (sbK (sbK (sbK (sbK (sbK (sbK (sbK sb0)))))))))))) h
      · have h := ifF e8 h
        refine u_ldc2 (x := (-2)) (pc := 27) (dec_at lsk_284 (k := 15) rfl) con_12_333 (by decide) ?_
        exact u_rL (pc := 30) (dec_at lsk_284 (k := 16) rfl) rfl h
theorem k_284_59 {d : Nat} {Q : Int → uS → Prop} {u : uS} {l3 l4 l6 l8 : Int} (h : (rL l4) ∧ (if 0 < l4 then (K_284 (d + 1) 79 [.ref 271, .retAddr 0, .retAddr 0, iV l3, lV (l4 - 1), .retAddr 0, lV l6, .retAddr 0, iV l8, iV (-2), iV 0, .retAddr 0] [] u Q) else ((rI l3) ∧ (if l3 = 0 then ((rI l8) ∧ ((rI (l8.tdiv 40)) ∧ ((rI ((l8.tdiv 40).tmod 10)) ∧ (Q ((l8.tdiv 40).tmod 10) u)))) else (if l3 = 1 then ((0 ≤ l8) ∧ ((l8 < 16000) ∧ ((rI (u.1 331 l8)) ∧ (Q (u.1 331 l8) u)))) else (if l3 = 2 then ((rI l8) ∧ ((rI (l8.tdiv 40)) ∧ ((rI ((l8.tdiv 40).tdiv 10)) ∧ (Q ((l8.tdiv 40).tdiv 10) u)))) else (if l3 = 3 then ((rI l8) ∧ ((rI (l8.tmod 40)) ∧ (Q (l8.tmod 40) u))) else (if l3 = 4 then ((0 ≤ l8) ∧ ((l8 < 16000) ∧ (Q (u.1 333 l8) u))) else (if l3 = 5 then ((0 ≤ l8) ∧ ((l8 < 16000) ∧ (Q (u.1 334 l8) u))) else (Q l6 u)))))))))) : K_284 (d + 1) 59 [.ref 271, .retAddr 0, .retAddr 0, iV l3, lV l4, .retAddr 0, lV l6, .retAddr 0, iV l8, .retAddr 0, .retAddr 0, .retAddr 0] [] u Q := by
  unfold K_284
  refine u_ld (v := lV l4) (pc := 59) (dec_at lsk_284 (k := 32) rfl) rfl ?_
  refine u_cl (x := 0) (pc := 61) (dec_at lsk_284 (k := 33) rfl) rfl (by decide) ?_
  refine u_st (st' := [.int (lg_cmp (Int64.ofInt l4) (Int64.ofInt 0))]) (pc := 62) (dec_at lsk_284 (k := 34) rfl) rfl ?_
  have g1 := h.1
  have h := h.2
  refine u_ifF (pc := 63) (tgt := 201) (dec_at lsk_284 (k := 35) rfl) rfl (cl_le g1 (by decide)) (fun e2 => ?_) (fun e2 => ?_)
  · have h := ifT e2 h
    refine u_ld (v := lV l4) (pc := 66) (dec_at lsk_284 (k := 36) rfl) rfl ?_
    refine u_cl (x := 1) (pc := 68) (dec_at lsk_284 (k := 37) rfl) rfl (by decide) ?_
    refine u_lsub (pc := 69) (dec_at lsk_284 (k := 38) rfl) ?_
    refine u_sto (lv' := [.ref 271, .retAddr 0, .retAddr 0, iV l3, lV (l4 - 1), .retAddr 0, lV l6, .retAddr 0, iV l8, .retAddr 0, .retAddr 0, .retAddr 0]) (pc := 70) (dec_at lsk_284 (k := 39) rfl) rfl ?_
    refine u_c (x := (-2)) (pc := 72) (dec_at lsk_284 (k := 40) rfl) rfl (by decide) ?_
    refine u_sto (lv' := [.ref 271, .retAddr 0, .retAddr 0, iV l3, lV (l4 - 1), .retAddr 0, lV l6, .retAddr 0, iV l8, iV (-2), .retAddr 0, .retAddr 0]) (pc := 74) (dec_at lsk_284 (k := 41) rfl) rfl ?_
    refine u_ld (v := iV 0) (pc := 76) (dec_at lsk_284 (k := 42) rfl) rfl ?_
    refine u_sto (lv' := [.ref 271, .retAddr 0, .retAddr 0, iV l3, lV (l4 - 1), .retAddr 0, lV l6, .retAddr 0, iV l8, iV (-2), iV 0, .retAddr 0]) (pc := 77) (dec_at lsk_284 (k := 43) rfl) rfl ?_
    exact h
  · have h := ifF e2 h
    refine u_ld (v := iV l3) (pc := 201) (dec_at lsk_284 (k := 103) rfl) rfl ?_
    have g3 := h.1
    have h := h.2
    refine u_ifF (pc := 202) (tgt := 217) (dec_at lsk_284 (k := 104) rfl) rfl (c0_ne g3) (fun e4 => ?_) (fun e4 => ?_)
    · have h := ifT e4 h
      refine u_ld (v := iV l8) (pc := 205) (dec_at lsk_284 (k := 105) rfl) rfl ?_
      refine u_c (x := 40) (pc := 207) (dec_at lsk_284 (k := 106) rfl) rfl (by decide) ?_
      have g5 := h.1
      have h := h.2
      refine u_idiv (pc := 209) (dec_at lsk_284 (k := 107) rfl) g5 (by decide) (by decide) ?_
      refine u_c (x := 10) (pc := 210) (dec_at lsk_284 (k := 108) rfl) rfl (by decide) ?_
      have g6 := h.1
      have h := h.2
      refine u_irem (pc := 212) (dec_at lsk_284 (k := 109) rfl) g6 (by decide) (by decide) ?_
      have g7 := h.1
      have h := h.2
      refine u_i2l (pc := 213) (dec_at lsk_284 (k := 110) rfl) g7 ?_
      refine u_goto (pc := 214) (tgt := 296) (dec_at lsk_284 (k := 111) rfl) rfl ?_
      exact u_rL (pc := 296) (dec_at lsk_284 (k := 156) rfl) rfl h
    · have h := ifF e4 h
      refine u_ld (v := iV l3) (pc := 217) (dec_at lsk_284 (k := 112) rfl) rfl ?_
      refine u_ld (v := iV 1) (pc := 218) (dec_at lsk_284 (k := 113) rfl) rfl ?_
      refine u_icF (pc := 219) (tgt := 233) (dec_at lsk_284 (k := 114) rfl) rfl (ci_ne g3 (by decide)) (fun e8 => ?_) (fun e8 => ?_)
      · have h := ifT e8 h
        refine u_ld (v := .ref 271) (pc := 222) (dec_at lsk_284 (k := 115) rfl) rfl ?_
        refine u_gS (o := 60) (p := 331) (pc := 223) (dec_at lsk_284 (k := 116) rfl) f_12_191 sx_271 rfl rfl ?_
        refine u_ld (v := iV l8) (pc := 226) (dec_at lsk_284 (k := 117) rfl) rfl ?_
        have g9 := h.1
        have h := h.2
        have g10 := h.1
        have h := h.2
        refine u_iald (pc := 228) (dec_at lsk_284 (k := 118) rfl) sx_331 g9 g10 ?_
        have g11 := h.1
        have h := h.2
        refine u_i2l (pc := 229) (dec_at lsk_284 (k := 119) rfl) g11 ?_
        refine u_goto (pc := 230) (tgt := 296) (dec_at lsk_284 (k := 120) rfl) rfl ?_
        exact u_rL (pc := 296) (dec_at lsk_284 (k := 156) rfl) rfl h
      · have h := ifF e8 h
        refine u_ld (v := iV l3) (pc := 233) (dec_at lsk_284 (k := 121) rfl) rfl ?_
        refine u_ld (v := iV 2) (pc := 234) (dec_at lsk_284 (k := 122) rfl) rfl ?_
        refine u_icF (pc := 235) (tgt := 250) (dec_at lsk_284 (k := 123) rfl) rfl (ci_ne g3 (by decide)) (fun e12 => ?_) (fun e12 => ?_)
        · have h := ifT e12 h
          refine u_ld (v := iV l8) (pc := 238) (dec_at lsk_284 (k := 124) rfl) rfl ?_
          refine u_c (x := 40) (pc := 240) (dec_at lsk_284 (k := 125) rfl) rfl (by decide) ?_
          have g13 := h.1
          have h := h.2
          refine u_idiv (pc := 242) (dec_at lsk_284 (k := 126) rfl) g13 (by decide) (by decide) ?_
          refine u_c (x := 10) (pc := 243) (dec_at lsk_284 (k := 127) rfl) rfl (by decide) ?_
          have g14 := h.1
          have h := h.2
          refine u_idiv (pc := 245) (dec_at lsk_284 (k := 128) rfl) g14 (by decide) (by decide) ?_
          have g15 := h.1
          have h := h.2
          refine u_i2l (pc := 246) (dec_at lsk_284 (k := 129) rfl) g15 ?_
          refine u_goto (pc := 247) (tgt := 296) (dec_at lsk_284 (k := 130) rfl) rfl ?_
          exact u_rL (pc := 296) (dec_at lsk_284 (k := 156) rfl) rfl h
        · have h := ifF e12 h
          refine u_ld (v := iV l3) (pc := 250) (dec_at lsk_284 (k := 131) rfl) rfl ?_
          refine u_ld (v := iV 3) (pc := 251) (dec_at lsk_284 (k := 132) rfl) rfl ?_
          refine u_icF (pc := 252) (tgt := 264) (dec_at lsk_284 (k := 133) rfl) rfl (ci_ne g3 (by decide)) (fun e16 => ?_) (fun e16 => ?_)
          · have h := ifT e16 h
            refine u_ld (v := iV l8) (pc := 255) (dec_at lsk_284 (k := 134) rfl) rfl ?_
            refine u_c (x := 40) (pc := 257) (dec_at lsk_284 (k := 135) rfl) rfl (by decide) ?_
            have g17 := h.1
            have h := h.2
            refine u_irem (pc := 259) (dec_at lsk_284 (k := 136) rfl) g17 (by decide) (by decide) ?_
            have g18 := h.1
            have h := h.2
            refine u_i2l (pc := 260) (dec_at lsk_284 (k := 137) rfl) g18 ?_
            refine u_goto (pc := 261) (tgt := 296) (dec_at lsk_284 (k := 138) rfl) rfl ?_
            exact u_rL (pc := 296) (dec_at lsk_284 (k := 156) rfl) rfl h
          · have h := ifF e16 h
            refine u_ld (v := iV l3) (pc := 264) (dec_at lsk_284 (k := 139) rfl) rfl ?_
            refine u_ld (v := iV 4) (pc := 265) (dec_at lsk_284 (k := 140) rfl) rfl ?_
            refine u_icF (pc := 266) (tgt := 279) (dec_at lsk_284 (k := 141) rfl) rfl (ci_ne g3 (by decide)) (fun e19 => ?_) (fun e19 => ?_)
            · have h := ifT e19 h
              refine u_ld (v := .ref 271) (pc := 269) (dec_at lsk_284 (k := 142) rfl) rfl ?_
              refine u_gS (o := 62) (p := 333) (pc := 270) (dec_at lsk_284 (k := 143) rfl) f_12_198 sx_271 rfl rfl ?_
              refine u_ld (v := iV l8) (pc := 273) (dec_at lsk_284 (k := 144) rfl) rfl ?_
              have g20 := h.1
              have h := h.2
              have g21 := h.1
              have h := h.2
              refine u_lald (pc := 275) (dec_at lsk_284 (k := 145) rfl) sx_333 g20 g21 ?_
              refine u_goto (pc := 276) (tgt := 296) (dec_at lsk_284 (k := 146) rfl) rfl ?_
              exact u_rL (pc := 296) (dec_at lsk_284 (k := 156) rfl) rfl h
            · have h := ifF e19 h
              refine u_ld (v := iV l3) (pc := 279) (dec_at lsk_284 (k := 147) rfl) rfl ?_
              refine u_ld (v := iV 5) (pc := 280) (dec_at lsk_284 (k := 148) rfl) rfl ?_
              refine u_icF (pc := 281) (tgt := 294) (dec_at lsk_284 (k := 149) rfl) rfl (ci_ne g3 (by decide)) (fun e22 => ?_) (fun e22 => ?_)
              · have h := ifT e22 h
                refine u_ld (v := .ref 271) (pc := 284) (dec_at lsk_284 (k := 150) rfl) rfl ?_
                refine u_gS (o := 63) (p := 334) (pc := 285) (dec_at lsk_284 (k := 151) rfl) f_12_201 sx_271 rfl rfl ?_
                refine u_ld (v := iV l8) (pc := 288) (dec_at lsk_284 (k := 152) rfl) rfl ?_
                have g23 := h.1
                have h := h.2
                have g24 := h.1
                have h := h.2
                refine u_lald (pc := 290) (dec_at lsk_284 (k := 153) rfl) sx_334 g23 g24 ?_
                refine u_goto (pc := 291) (tgt := 296) (dec_at lsk_284 (k := 154) rfl) rfl ?_
                exact u_rL (pc := 296) (dec_at lsk_284 (k := 156) rfl) rfl h
              · have h := ifF e22 h
                refine u_ld (v := lV l6) (pc := 294) (dec_at lsk_284 (k := 155) rfl) rfl ?_
                exact u_rL (pc := 296) (dec_at lsk_284 (k := 156) rfl) rfl h
theorem k_284_79 {d : Nat} {Q : Int → uS → Prop} {u : uS} {l3 l4 l6 l8 l9 l10 : Int} (h : (0 ≤ l8) ∧ ((l8 < 16000) ∧ ((0 ≤ u.1 331 l8) ∧ ((u.1 331 l8 < 30) ∧ ((rI l10) ∧ ((rI (u.1 337 (u.1 331 l8))) ∧ (if l10 < u.1 337 (u.1 331 l8) then ((rI l9) ∧ (if l9 = (-2) then (cI (d + 1) 283 [.ref 271, iV l8, iV l10] u (fun r11 u10 => (rI r11) ∧ (if r11 = (-2) then ((cn 5000000000000000000 l6) ∧ ((cn 5000000000000000000 1) ∧ (K_284 (d + 1) 79 [.ref 271, .retAddr 0, .retAddr 0, iV l3, lV l4, .retAddr 0, lV (pl 5000000000000000000 l6 1), .retAddr 0, iV l8, iV l9, iV (l10 + 1), .retAddr 0] [] u10 Q))) else ((0 ≤ r11) ∧ ((r11 < 16000) ∧ ((rL l4) ∧ ((rL (u10.1 333 r11)) ∧ (if l4 < u10.1 333 r11 then (K_284 (d + 1) 79 [.ref 271, .retAddr 0, .retAddr 0, iV l3, lV l4, .retAddr 0, lV l6, .retAddr 0, iV l8, iV r11, iV (l10 + 1), .retAddr 0] [] u10 Q) else ((cn 5000000000000000000 l6) ∧ ((cn 5000000000000000000 (u10.1 334 r11)) ∧ (K_284 (d + 1) 79 [.ref 271, .retAddr 0, .retAddr 0, iV l3, lV (l4 - (u10.1 333 r11)), .retAddr 0, lV (pl 5000000000000000000 l6 (u10.1 334 r11)), .retAddr 0, iV l8, iV l9, iV (l10 + 1), .retAddr 0] [] u10 Q))))))))))) else (K_284 (d + 1) 59 [.ref 271, .retAddr 0, .retAddr 0, iV l3, lV l4, .retAddr 0, lV l6, .retAddr 0, iV l9, .retAddr 0, .retAddr 0, .retAddr 0] [] u Q))) else ((rI l9) ∧ (if l9 = (-2) then (Q (-2) u) else (K_284 (d + 1) 59 [.ref 271, .retAddr 0, .retAddr 0, iV l3, lV l4, .retAddr 0, lV l6, .retAddr 0, iV l9, .retAddr 0, .retAddr 0, .retAddr 0] [] u Q)))))))))) : K_284 (d + 1) 79 [.ref 271, .retAddr 0, .retAddr 0, iV l3, lV l4, .retAddr 0, lV l6, .retAddr 0, iV l8, iV l9, iV l10, .retAddr 0] [] u Q := by
  unfold K_284
  refine u_ld (v := iV l10) (pc := 79) (dec_at lsk_284 (k := 44) rfl) rfl ?_
  refine u_ld (v := .ref 271) (pc := 81) (dec_at lsk_284 (k := 45) rfl) rfl ?_
  refine u_gS (o := 66) (p := 337) (pc := 82) (dec_at lsk_284 (k := 46) rfl) f_12_210 sx_271 rfl rfl ?_
  refine u_ld (v := .ref 271) (pc := 85) (dec_at lsk_284 (k := 47) rfl) rfl ?_
  refine u_gS (o := 60) (p := 331) (pc := 86) (dec_at lsk_284 (k := 48) rfl) f_12_191 sx_271 rfl rfl ?_
  refine u_ld (v := iV l8) (pc := 89) (dec_at lsk_284 (k := 49) rfl) rfl ?_
  have g1 := h.1
  have h := h.2
  have g2 := h.1
  have h := h.2
  refine u_iald (pc := 91) (dec_at lsk_284 (k := 50) rfl) sx_331 g1 g2 ?_
  have g3 := h.1
  have h := h.2
  have g4 := h.1
  have h := h.2
  refine u_iald (pc := 92) (dec_at lsk_284 (k := 51) rfl) sx_337 g3 g4 ?_
  have g5 := h.1
  have h := h.2
  have g6 := h.1
  have h := h.2
  refine u_icF (pc := 93) (tgt := 183) (dec_at lsk_284 (k := 52) rfl) rfl (ci_ge g5 g6) (fun e7 => ?_) (fun e7 => ?_)
  · have h := ifT e7 h
    refine u_ld (v := iV l9) (pc := 96) (dec_at lsk_284 (k := 53) rfl) rfl ?_
    refine u_c (x := (-2)) (pc := 98) (dec_at lsk_284 (k := 54) rfl) rfl (by decide) ?_
    have g8 := h.1
    have h := h.2
    refine u_icF (pc := 100) (tgt := 183) (dec_at lsk_284 (k := 55) rfl) rfl (ci_ne g8 (by decide)) (fun e9 => ?_) (fun e9 => ?_)
    · have h := ifT e9 h
      refine u_ld (v := .ref 271) (pc := 103) (dec_at lsk_284 (k := 56) rfl) rfl ?_
      refine u_ld (v := iV l8) (pc := 104) (dec_at lsk_284 (k := 57) rfl) rfl ?_
      refine u_ld (v := iV l10) (pc := 106) (dec_at lsk_284 (k := 58) rfl) rfl ?_
      refine u_cvI (As := [iV l8, iV l10]) (rb := 271) (st2 := []) (pc := 108) (dec_at lsk_284 (k := 59) rfl) m_12_541 (Or.inl rfl) rfl (Nat.le_of_ble_eq_true rfl) sx_271 me_283 rfl h (fun r11 u10 h => ?_)
      refine u_sto (lv' := [.ref 271, .retAddr 0, .retAddr 0, iV l3, lV l4, .retAddr 0, lV l6, .retAddr 0, iV l8, iV l9, iV l10, iV r11]) (pc := 111) (dec_at lsk_284 (k := 60) rfl) rfl ?_
      refine u_ld (v := iV r11) (pc := 113) (dec_at lsk_284 (k := 61) rfl) rfl ?_
      refine u_c (x := (-2)) (pc := 115) (dec_at lsk_284 (k := 62) rfl) rfl (by decide) ?_
      have g12 := h.1
      have h := h.2
      refine u_icF (pc := 117) (tgt := 131) (dec_at lsk_284 (k := 63) rfl) rfl (ci_ne g12 (by decide)) (fun e13 => ?_) (fun e13 => ?_)
      · have h := ifT e13 h
        refine u_ld (v := lV l6) (pc := 120) (dec_at lsk_284 (k := 64) rfl) rfl ?_
        refine u_cl (x := 1) (pc := 122) (dec_at lsk_284 (k := 65) rfl) rfl (by decide) ?_
        have g14 := h.1
        have h := h.2
        have g15 := h.1
        have h := h.2
        refine u_csL (As := [lV l6, lV 1]) (st2 := []) (pc := 123) (dec_at lsk_284 (k := 66) rfl) m_12_323 (Or.inl rfl) rfl (Nat.le_of_ble_eq_true rfl) (p_217 g14 g15) (fun r_ u_ h_ => ?_)
        rw [h_.1, h_.2]
        refine u_sto (lv' := [.ref 271, .retAddr 0, .retAddr 0, iV l3, lV l4, .retAddr 0, lV (pl 5000000000000000000 l6 1), .retAddr 0, iV l8, iV l9, iV l10, iV r11]) (pc := 126) (dec_at lsk_284 (k := 67) rfl) rfl ?_
        refine u_goto (pc := 128) (tgt := 177) (dec_at lsk_284 (k := 68) rfl) rfl ?_
        refine u_inc (lv' := [.ref 271, .retAddr 0, .retAddr 0, iV l3, lV l4, .retAddr 0, lV (pl 5000000000000000000 l6 1), .retAddr 0, iV l8, iV l9, iV (l10 + 1), iV r11]) (pc := 177) (dec_at lsk_284 (k := 93) rfl) rfl (by decide) rfl ?_
        refine u_goto (pc := 180) (tgt := 79) (dec_at lsk_284 (k := 94) rfl) rfl ?_
        exact u_weak (sbK (sbK (sbK (sbK (sbK (sbK (sbK (sbK (sbK (sbK (sbK (sbD sb0)))))))))))) h
      · have h := ifF e13 h
        refine u_ld (v := lV l4) (pc := 131) (dec_at lsk_284 (k := 69) rfl) rfl ?_
        refine u_ld (v := .ref 271) (pc := 133) (dec_at lsk_284 (k := 70) rfl) rfl ?_
        refine u_gS (o := 62) (p := 333) (pc := 134) (dec_at lsk_284 (k := 71) rfl) f_12_198 sx_271 rfl rfl ?_
        refine u_ld (v := iV r11) (pc := 137) (dec_at lsk_284 (k := 72) rfl) rfl ?_
        have g16 := h.1
        have h := h.2
        have g17 := h.1
        have h := h.2
        refine u_lald (pc := 139) (dec_at lsk_284 (k := 73) rfl) sx_333 g16 g17 ?_
        refine u_st (st' := [.int (lg_cmp (Int64.ofInt l4) (Int64.ofInt (u10.1 333 r11)))]) (pc := 140) (dec_at lsk_284 (k := 74) rfl) rfl ?_
        have g18 := h.1
        have h := h.2
        have g19 := h.1
        have h := h.2
        refine u_ifF (pc := 141) (tgt := 151) (dec_at lsk_284 (k := 75) rfl) rfl (cl_ge g18 g19) (fun e20 => ?_) (fun e20 => ?_)
        · have h := ifT e20 h
          refine u_ld (v := iV r11) (pc := 144) (dec_at lsk_284 (k := 76) rfl) rfl ?_
          refine u_sto (lv' := [.ref 271, .retAddr 0, .retAddr 0, iV l3, lV l4, .retAddr 0, lV l6, .retAddr 0, iV l8, iV r11, iV l10, iV r11]) (pc := 146) (dec_at lsk_284 (k := 77) rfl) rfl ?_
          refine u_goto (pc := 148) (tgt := 177) (dec_at lsk_284 (k := 78) rfl) rfl ?_
          refine u_inc (lv' := [.ref 271, .retAddr 0, .retAddr 0, iV l3, lV l4, .retAddr 0, lV l6, .retAddr 0, iV l8, iV r11, iV (l10 + 1), iV r11]) (pc := 177) (dec_at lsk_284 (k := 93) rfl) rfl (by decide) rfl ?_
          refine u_goto (pc := 180) (tgt := 79) (dec_at lsk_284 (k := 94) rfl) rfl ?_
          exact u_weak (sbK (sbK (sbK (sbK (sbK (sbK (sbK (sbK (sbK (sbK (sbK (sbD sb0)))))))))))) h
        · have h := ifF e20 h
          refine u_ld (v := lV l4) (pc := 151) (dec_at lsk_284 (k := 79) rfl) rfl ?_
          refine u_ld (v := .ref 271) (pc := 153) (dec_at lsk_284 (k := 80) rfl) rfl ?_
          refine u_gS (o := 62) (p := 333) (pc := 154) (dec_at lsk_284 (k := 81) rfl) f_12_198 sx_271 rfl rfl ?_
          refine u_ld (v := iV r11) (pc := 157) (dec_at lsk_284 (k := 82) rfl) rfl ?_
          refine u_lald (pc := 159) (dec_at lsk_284 (k := 83) rfl) sx_333 g16 g17 ?_
          refine u_lsub (pc := 160) (dec_at lsk_284 (k := 84) rfl) ?_
          refine u_sto (lv' := [.ref 271, .retAddr 0, .retAddr 0, iV l3, lV (l4 - (u10.1 333 r11)), .retAddr 0, lV l6, .retAddr 0, iV l8, iV l9, iV l10, iV r11]) (pc := 161) (dec_at lsk_284 (k := 85) rfl) rfl ?_
          refine u_ld (v := lV l6) (pc := 163) (dec_at lsk_284 (k := 86) rfl) rfl ?_
          refine u_ld (v := .ref 271) (pc := 165) (dec_at lsk_284 (k := 87) rfl) rfl ?_
          refine u_gS (o := 63) (p := 334) (pc := 166) (dec_at lsk_284 (k := 88) rfl) f_12_201 sx_271 rfl rfl ?_
          refine u_ld (v := iV r11) (pc := 169) (dec_at lsk_284 (k := 89) rfl) rfl ?_
          refine u_lald (pc := 171) (dec_at lsk_284 (k := 90) rfl) sx_334 g16 g17 ?_
          have g21 := h.1
          have h := h.2
          have g22 := h.1
          have h := h.2
          refine u_csL (As := [lV l6, lV (u10.1 334 r11)]) (st2 := []) (pc := 172) (dec_at lsk_284 (k := 91) rfl) m_12_323 (Or.inl rfl) rfl (Nat.le_of_ble_eq_true rfl) (p_217 g21 g22) (fun r_ u_ h_ => ?_)
          rw [h_.1, h_.2]
          refine u_sto (lv' := [.ref 271, .retAddr 0, .retAddr 0, iV l3, lV (l4 - (u10.1 333 r11)), .retAddr 0, lV (pl 5000000000000000000 l6 (u10.1 334 r11)), .retAddr 0, iV l8, iV l9, iV l10, iV r11]) (pc := 175) (dec_at lsk_284 (k := 92) rfl) rfl ?_
          refine u_inc (lv' := [.ref 271, .retAddr 0, .retAddr 0, iV l3, lV (l4 - (u10.1 333 r11)), .retAddr 0, lV (pl 5000000000000000000 l6 (u10.1 334 r11)), .retAddr 0, iV l8, iV l9, iV (l10 + 1), iV r11]) (pc := 177) (dec_at lsk_284 (k := 93) rfl) rfl (by decide) rfl ?_
          refine u_goto (pc := 180) (tgt := 79) (dec_at lsk_284 (k := 94) rfl) rfl ?_
          exact u_weak (sbK (sbK (sbK (sbK (sbK (sbK (sbK (sbK (sbK (sbK (sbK (sbD sb0)))))))))))) h
    · have h := ifF e9 h
      refine u_ld (v := iV l9) (pc := 183) (dec_at lsk_284 (k := 95) rfl) rfl ?_
      refine u_c (x := (-2)) (pc := 185) (dec_at lsk_284 (k := 96) rfl) rfl (by decide) ?_
      refine u_icF (pc := 187) (tgt := 194) (dec_at lsk_284 (k := 97) rfl) rfl (ci_ne g8 (by decide)) (fun e23 => absurd e23 e9) (fun _ => ?_)
      refine u_ld (v := iV l9) (pc := 194) (dec_at lsk_284 (k := 100) rfl) rfl ?_
      refine u_sto (lv' := [.ref 271, .retAddr 0, .retAddr 0, iV l3, lV l4, .retAddr 0, lV l6, .retAddr 0, iV l9, iV l9, iV l10, .retAddr 0]) (pc := 196) (dec_at lsk_284 (k := 101) rfl) rfl ?_
      refine u_goto (pc := 198) (tgt := 59) (dec_at lsk_284 (k := 102) rfl) rfl ?_
      exact u_weak (sbK (sbK (sbK (sbK (sbK (sbK (sbK (sbK (sbK (sbD (sbD (sbK sb0)))))))))))) h
  · have h := ifF e7 h
    refine u_ld (v := iV l9) (pc := 183) (dec_at lsk_284 (k := 95) rfl) rfl ?_
    refine u_c (x := (-2)) (pc := 185) (dec_at lsk_284 (k := 96) rfl) rfl (by decide) ?_
    have g24 := h.1
    have h := h.2
    refine u_icF (pc := 187) (tgt := 194) (dec_at lsk_284 (k := 97) rfl) rfl (ci_ne g24 (by decide)) (fun e25 => ?_) (fun e25 => ?_)
    · have h := ifT e25 h
      refine u_ldc2 (x := (-2)) (pc := 190) (dec_at lsk_284 (k := 98) rfl) con_12_333 (by decide) ?_
      exact u_rL (pc := 193) (dec_at lsk_284 (k := 99) rfl) rfl h
    · have h := ifF e25 h
      refine u_ld (v := iV l9) (pc := 194) (dec_at lsk_284 (k := 100) rfl) rfl ?_
      refine u_sto (lv' := [.ref 271, .retAddr 0, .retAddr 0, iV l3, lV l4, .retAddr 0, lV l6, .retAddr 0, iV l9, iV l9, iV l10, .retAddr 0]) (pc := 196) (dec_at lsk_284 (k := 101) rfl) rfl ?_
      refine u_goto (pc := 198) (tgt := 59) (dec_at lsk_284 (k := 102) rfl) rfl ?_
      exact u_weak (sbK (sbK (sbK (sbK (sbK (sbK (sbK (sbK (sbK (sbD (sbD (sbK sb0)))))))))))) h
/-- method 285 -/
def K_285 (d pc : Nat) (lv : ev_L) (st : List Value) (u : uS) (Q : Int → uS → Prop) : Prop := okU d 12 3 false (some .int) prog_14_method_87_code (qI Q) pc lv st u
theorem e_285 {d : Nat} {Q : Int → uS → Prop} {u : uS} (h : (rI (u.1 271 73)) ∧ (if u.1 271 73 = 0 then (Q (-2) u) else ((0 ≤ u.1 271 74) ∧ ((u.1 271 74 < 16000) ∧ ((rL (u.1 334 (u.1 271 74))) ∧ (if 40 < u.1 334 (u.1 271 74) then (K_285 d 44 [.ref 271, iV 40, iV 0] [] u Q) else (K_285 d 44 [.ref 271, iV (wI (u.1 334 (u.1 271 74))), iV 0] [] u Q))))))) : cI (d + 1) 285 [.ref 271] u Q := by
  refine u_of me_285 (Nat.le_of_ble_eq_true rfl) ?_
  refine u_ld (v := .ref 271) (pc := 0) (dec_at lsk_285 (k := 0) rfl) rfl ?_
  refine u_gZ (z := 73) (pc := 1) (dec_at lsk_285 (k := 1) rfl) f_12_529 sx_271 rfl rfl ?_
  have g1 := h.1
  have h := h.2
  refine u_ifF (pc := 4) (tgt := 10) (dec_at lsk_285 (k := 2) rfl) rfl (c0_ne g1) (fun e2 => ?_) (fun e2 => ?_)
  · have h := ifT e2 h
    refine u_c (x := (-2)) (pc := 7) (dec_at lsk_285 (k := 3) rfl) rfl (by decide) ?_
    exact u_rI (pc := 9) (dec_at lsk_285 (k := 4) rfl) rfl h
  · have h := ifF e2 h
    refine u_ld (v := .ref 271) (pc := 10) (dec_at lsk_285 (k := 5) rfl) rfl ?_
    refine u_gS (o := 63) (p := 334) (pc := 11) (dec_at lsk_285 (k := 6) rfl) f_12_201 sx_271 rfl rfl ?_
    refine u_ld (v := .ref 271) (pc := 14) (dec_at lsk_285 (k := 7) rfl) rfl ?_
    refine u_gI (z := 74) (pc := 15) (dec_at lsk_285 (k := 8) rfl) f_12_535 sx_271 rfl rfl ?_
    have g3 := h.1
    have h := h.2
    have g4 := h.1
    have h := h.2
    refine u_lald (pc := 18) (dec_at lsk_285 (k := 9) rfl) sx_334 g3 g4 ?_
    refine u_ldc2 (x := 40) (pc := 19) (dec_at lsk_285 (k := 10) rfl) con_12_373 (by decide) ?_
    refine u_st (st' := [.int (lg_cmp (Int64.ofInt (u.1 334 (u.1 271 74))) (Int64.ofInt 40))]) (pc := 22) (dec_at lsk_285 (k := 11) rfl) rfl ?_
    have g5 := h.1
    have h := h.2
    refine u_ifF (pc := 23) (tgt := 31) (dec_at lsk_285 (k := 12) rfl) rfl (cl_le g5 (by decide)) (fun e6 => ?_) (fun e6 => ?_)
    · have h := ifT e6 h
      refine u_c (x := 40) (pc := 26) (dec_at lsk_285 (k := 13) rfl) rfl (by decide) ?_
      refine u_goto (pc := 28) (tgt := 41) (dec_at lsk_285 (k := 14) rfl) rfl ?_
      refine u_sto (lv' := [.ref 271, iV 40, .retAddr 0]) (pc := 41) (dec_at lsk_285 (k := 21) rfl) rfl ?_
      refine u_ld (v := iV 0) (pc := 42) (dec_at lsk_285 (k := 22) rfl) rfl ?_
      refine u_sto (lv' := [.ref 271, iV 40, iV 0]) (pc := 43) (dec_at lsk_285 (k := 23) rfl) rfl ?_
      exact h
    · have h := ifF e6 h
      refine u_ld (v := .ref 271) (pc := 31) (dec_at lsk_285 (k := 15) rfl) rfl ?_
      refine u_gS (o := 63) (p := 334) (pc := 32) (dec_at lsk_285 (k := 16) rfl) f_12_201 sx_271 rfl rfl ?_
      refine u_ld (v := .ref 271) (pc := 35) (dec_at lsk_285 (k := 17) rfl) rfl ?_
      refine u_gI (z := 74) (pc := 36) (dec_at lsk_285 (k := 18) rfl) f_12_535 sx_271 rfl rfl ?_
      refine u_lald (pc := 39) (dec_at lsk_285 (k := 19) rfl) sx_334 g3 g4 ?_
      refine u_l2w (pc := 40) (dec_at lsk_285 (k := 20) rfl) ?_
      refine u_sto (lv' := [.ref 271, iV (wI (u.1 334 (u.1 271 74))), .retAddr 0]) (pc := 41) (dec_at lsk_285 (k := 21) rfl) rfl ?_
      refine u_ld (v := iV 0) (pc := 42) (dec_at lsk_285 (k := 22) rfl) rfl ?_
      refine u_sto (lv' := [.ref 271, iV (wI (u.1 334 (u.1 271 74))), iV 0]) (pc := 43) (dec_at lsk_285 (k := 23) rfl) rfl ?_
      exact h
theorem k_285_44 {d : Nat} {Q : Int → uS → Prop} {u : uS} {l1 l2 : Int} (h : (rI l2) ∧ ((rI l1) ∧ (if l2 < l1 then (cI d 282 [.ref 271, lV l2] u (fun r5 u4 => (0 ≤ l2) ∧ ((l2 < 40) ∧ (∀ u8 : uS, u8 = wr u4 273 l2 r5 → (K_285 d 44 [.ref 271, iV l1, iV (l2 + 1)] [] u8 Q))))) else (∀ u10 : uS, u10 = wr u 271 3 l1 → (Q l1 u10))))) : K_285 d 44 [.ref 271, iV l1, iV l2] [] u Q := by
  unfold K_285
  refine u_ld (v := iV l2) (pc := 44) (dec_at lsk_285 (k := 24) rfl) rfl ?_
  refine u_ld (v := iV l1) (pc := 45) (dec_at lsk_285 (k := 25) rfl) rfl ?_
  have g1 := h.1
  have h := h.2
  have g2 := h.1
  have h := h.2
  refine u_icF (pc := 46) (tgt := 67) (dec_at lsk_285 (k := 26) rfl) rfl (ci_ge g1 g2) (fun e3 => ?_) (fun e3 => ?_)
  · have h := ifT e3 h
    refine u_ld (v := .ref 271) (pc := 49) (dec_at lsk_285 (k := 27) rfl) rfl ?_
    refine u_gS (o := 2) (p := 273) (pc := 50) (dec_at lsk_285 (k := 28) rfl) f_12_13 sx_271 rfl rfl ?_
    refine u_ld (v := iV l2) (pc := 53) (dec_at lsk_285 (k := 29) rfl) rfl ?_
    refine u_ld (v := .ref 271) (pc := 54) (dec_at lsk_285 (k := 30) rfl) rfl ?_
    refine u_ld (v := iV l2) (pc := 55) (dec_at lsk_285 (k := 31) rfl) rfl ?_
    refine u_i2l (pc := 56) (dec_at lsk_285 (k := 32) rfl) g1 ?_
    refine u_cvI (As := [lV l2]) (rb := 271) (st2 := [iV l2, .ref 273]) (pc := 57) (dec_at lsk_285 (k := 33) rfl) m_12_546 (Or.inl rfl) rfl (Nat.le_of_ble_eq_true rfl) sx_271 me_282 rfl h (fun r5 u4 h => ?_)
    have g6 := h.1
    have h := h.2
    have g7 := h.1
    have h := h.2
    refine u_iast (pc := 60) (dec_at lsk_285 (k := 34) rfl) sx_273 g6 g7 (fun u8 e9 => ?_)
    have h := h u8 e9
    refine u_inc (lv' := [.ref 271, iV l1, iV (l2 + 1)]) (pc := 61) (dec_at lsk_285 (k := 35) rfl) rfl (by decide) rfl ?_
    refine u_goto (pc := 64) (tgt := 44) (dec_at lsk_285 (k := 36) rfl) rfl ?_
    exact h
  · have h := ifF e3 h
    refine u_ld (v := .ref 271) (pc := 67) (dec_at lsk_285 (k := 37) rfl) rfl ?_
    refine u_ld (v := iV l1) (pc := 68) (dec_at lsk_285 (k := 38) rfl) rfl ?_
    refine u_pI (z := 3) (pc := 69) (dec_at lsk_285 (k := 39) rfl) f_12_262 sx_271 rfl rfl rfl rfl (fun u10 e11 => ?_)
    have h := h u10 e11
    refine u_ld (v := iV l1) (pc := 72) (dec_at lsk_285 (k := 40) rfl) rfl ?_
    exact u_rI (pc := 73) (dec_at lsk_285 (k := 41) rfl) rfl h
/-- method 286 -/
def K_286 (d pc : Nat) (lv : ev_L) (st : List Value) (u : uS) (Q : Int → uS → Prop) : Prop := okU d 12 7 false (some .long) prog_14_method_91_code (qL Q) pc lv st u
theorem e_286 {d : Nat} {Q : Int → uS → Prop} {u : uS} {l1 l2 : Int} (h : (rI (u.1 271 11)) ∧ (if u.1 271 11 = 0 then (Q (-1) u) else ((rI l1) ∧ (if l1 < 0 then (Q (-1) u) else (if 1 < l1 then (Q (-1) u) else ((rI l2) ∧ (if l2 < 0 then (Q (-1) u) else (if 2 < l2 then (Q (-1) u) else (cV (d + 1) 269 [.ref 271, iV l1] u (fun u9 => if l2 = 1 then (cL (d + 1) 287 [.ref 271, iV l1] u9 (fun r12 u11 => Q r12 u11)) else (K_286 (d + 1) 54 [.ref 271, iV l1, iV l2, lV 0, .retAddr 0, iV 0, .retAddr 0] [] u9 Q))))))))))) : cL (d + 2) 286 [.ref 271, iV l1, iV l2] u Q := by
  refine u_of me_286 (Nat.le_of_ble_eq_true rfl) ?_
  refine u_ld (v := .ref 271) (pc := 0) (dec_at lsk_286 (k := 0) rfl) rfl ?_
  refine u_gZ (z := 11) (pc := 1) (dec_at lsk_286 (k := 1) rfl) f_12_299 sx_271 rfl rfl ?_
  have g1 := h.1
  have h := h.2
  refine u_ifT (pc := 4) (tgt := 29) (dec_at lsk_286 (k := 2) rfl) rfl (c0_eq g1) (fun e2 => ?_) (fun e2 => ?_)
  · have h := ifT e2 h
    refine u_ldc2 (x := (-1)) (pc := 29) (dec_at lsk_286 (k := 15) rfl) con_12_331 (by decide) ?_
    exact u_rL (pc := 32) (dec_at lsk_286 (k := 16) rfl) rfl h
  · have h := ifF e2 h
    refine u_ld (v := iV l1) (pc := 7) (dec_at lsk_286 (k := 3) rfl) rfl ?_
    have g3 := h.1
    have h := h.2
    refine u_i2l (pc := 8) (dec_at lsk_286 (k := 4) rfl) g3 ?_
    refine u_cl (x := 0) (pc := 9) (dec_at lsk_286 (k := 5) rfl) rfl (by decide) ?_
    refine u_cl (x := 1) (pc := 10) (dec_at lsk_286 (k := 6) rfl) rfl (by decide) ?_
    refine u_csI (As := [lV l1, lV 0, lV 1]) (st2 := []) (pc := 11) (dec_at lsk_286 (k := 7) rfl) m_12_250 (Or.inl rfl) rfl (Nat.le_of_ble_eq_true rfl) ?_ (fun _ _ h_ => h_)
    refine u_of me_203 (Nat.le_of_ble_eq_true rfl) ?_
    refine u_ld (v := lV l1) (pc := 0) (dec_at lsk_203 (k := 0) rfl) rfl ?_
    refine u_ld (v := lV 0) (pc := 1) (dec_at lsk_203 (k := 1) rfl) rfl ?_
    refine u_st (st' := [.int (lg_cmp (Int64.ofInt l1) (Int64.ofInt 0))]) (pc := 2) (dec_at lsk_203 (k := 2) rfl) rfl ?_
    refine u_ifT (pc := 3) (tgt := 17) (dec_at lsk_203 (k := 3) rfl) rfl (cl_lt (rl_ri g3) (by decide)) (fun e4 => ?_) (fun e4 => ?_)
    · have h := ifT e4 h
      refine u_ld (v := iV 0) (pc := 17) (dec_at lsk_203 (k := 10) rfl) rfl ?_
      refine u_rZ (pc := 18) (dec_at lsk_203 (k := 11) rfl) rfl (by decide) ?_
      refine u_ifT (pc := 14) (tgt := 29) (dec_at lsk_286 (k := 8) rfl) rfl (c0_eq (by decide)) (fun _ => ?_) (fun e => absurd e (by decide))
      refine u_ldc2 (x := (-1)) (pc := 29) (dec_at lsk_286 (k := 15) rfl) con_12_331 (by decide) ?_
      exact u_rL (pc := 32) (dec_at lsk_286 (k := 16) rfl) rfl h
    · have h := ifF e4 h
      refine u_ld (v := lV l1) (pc := 6) (dec_at lsk_203 (k := 4) rfl) rfl ?_
      refine u_ld (v := lV 1) (pc := 7) (dec_at lsk_203 (k := 5) rfl) rfl ?_
      refine u_st (st' := [.int (lg_cmp (Int64.ofInt l1) (Int64.ofInt 1))]) (pc := 9) (dec_at lsk_203 (k := 6) rfl) rfl ?_
      refine u_ifT (pc := 10) (tgt := 17) (dec_at lsk_203 (k := 7) rfl) rfl (cl_gt (rl_ri g3) (by decide)) (fun e5 => ?_) (fun e5 => ?_)
      · have h := ifT e5 h
        refine u_ld (v := iV 0) (pc := 17) (dec_at lsk_203 (k := 10) rfl) rfl ?_
        refine u_rZ (pc := 18) (dec_at lsk_203 (k := 11) rfl) rfl (by decide) ?_
        refine u_ifT (pc := 14) (tgt := 29) (dec_at lsk_286 (k := 8) rfl) rfl (c0_eq (by decide)) (fun _ => ?_) (fun e => absurd e (by decide))
        refine u_ldc2 (x := (-1)) (pc := 29) (dec_at lsk_286 (k := 15) rfl) con_12_331 (by decide) ?_
        exact u_rL (pc := 32) (dec_at lsk_286 (k := 16) rfl) rfl h
      · have h := ifF e5 h
        refine u_ld (v := iV 1) (pc := 13) (dec_at lsk_203 (k := 8) rfl) rfl ?_
        refine u_goto (pc := 14) (tgt := 18) (dec_at lsk_203 (k := 9) rfl) rfl ?_
        refine u_rZ (pc := 18) (dec_at lsk_203 (k := 11) rfl) rfl (by decide) ?_
        refine u_ifT (pc := 14) (tgt := 29) (dec_at lsk_286 (k := 8) rfl) rfl (c0_eq (by decide)) (fun e => absurd e (by decide)) (fun _ => ?_)
        refine u_ld (v := iV l2) (pc := 17) (dec_at lsk_286 (k := 9) rfl) rfl ?_
        have g6 := h.1
        have h := h.2
        refine u_i2l (pc := 18) (dec_at lsk_286 (k := 10) rfl) g6 ?_
        refine u_cl (x := 0) (pc := 19) (dec_at lsk_286 (k := 11) rfl) rfl (by decide) ?_
        refine u_ldc2 (x := 2) (pc := 20) (dec_at lsk_286 (k := 12) rfl) con_12_553 (by decide) ?_
        refine u_csI (As := [lV l2, lV 0, lV 2]) (st2 := []) (pc := 23) (dec_at lsk_286 (k := 13) rfl) m_12_250 (Or.inl rfl) rfl (Nat.le_of_ble_eq_true rfl) ?_ (fun _ _ h_ => h_)
        refine u_of me_203 (Nat.le_of_ble_eq_true rfl) ?_
        refine u_ld (v := lV l2) (pc := 0) (dec_at lsk_203 (k := 0) rfl) rfl ?_
        refine u_ld (v := lV 0) (pc := 1) (dec_at lsk_203 (k := 1) rfl) rfl ?_
        refine u_st (st' := [.int (lg_cmp (Int64.ofInt l2) (Int64.ofInt 0))]) (pc := 2) (dec_at lsk_203 (k := 2) rfl) rfl ?_
        refine u_ifT (pc := 3) (tgt := 17) (dec_at lsk_203 (k := 3) rfl) rfl (cl_lt (rl_ri g6) (by decide)) (fun e7 => ?_) (fun e7 => ?_)
        · have h := ifT e7 h
          refine u_ld (v := iV 0) (pc := 17) (dec_at lsk_203 (k := 10) rfl) rfl ?_
          refine u_rZ (pc := 18) (dec_at lsk_203 (k := 11) rfl) rfl (by decide) ?_
          refine u_ifF (pc := 26) (tgt := 33) (dec_at lsk_286 (k := 14) rfl) rfl (c0_ne (by decide)) (fun _ => ?_) (fun e => absurd e (by decide))
          refine u_ldc2 (x := (-1)) (pc := 29) (dec_at lsk_286 (k := 15) rfl) con_12_331 (by decide) ?_
          exact u_rL (pc := 32) (dec_at lsk_286 (k := 16) rfl) rfl h
        · have h := ifF e7 h
          refine u_ld (v := lV l2) (pc := 6) (dec_at lsk_203 (k := 4) rfl) rfl ?_
          refine u_ld (v := lV 2) (pc := 7) (dec_at lsk_203 (k := 5) rfl) rfl ?_
          refine u_st (st' := [.int (lg_cmp (Int64.ofInt l2) (Int64.ofInt 2))]) (pc := 9) (dec_at lsk_203 (k := 6) rfl) rfl ?_
          refine u_ifT (pc := 10) (tgt := 17) (dec_at lsk_203 (k := 7) rfl) rfl (cl_gt (rl_ri g6) (by decide)) (fun e8 => ?_) (fun e8 => ?_)
          · have h := ifT e8 h
            refine u_ld (v := iV 0) (pc := 17) (dec_at lsk_203 (k := 10) rfl) rfl ?_
            refine u_rZ (pc := 18) (dec_at lsk_203 (k := 11) rfl) rfl (by decide) ?_
            refine u_ifF (pc := 26) (tgt := 33) (dec_at lsk_286 (k := 14) rfl) rfl (c0_ne (by decide)) (fun _ => ?_) (fun e => absurd e (by decide))
            refine u_ldc2 (x := (-1)) (pc := 29) (dec_at lsk_286 (k := 15) rfl) con_12_331 (by decide) ?_
            exact u_rL (pc := 32) (dec_at lsk_286 (k := 16) rfl) rfl h
          · have h := ifF e8 h
            refine u_ld (v := iV 1) (pc := 13) (dec_at lsk_203 (k := 8) rfl) rfl ?_
            refine u_goto (pc := 14) (tgt := 18) (dec_at lsk_203 (k := 9) rfl) rfl ?_
            refine u_rZ (pc := 18) (dec_at lsk_203 (k := 11) rfl) rfl (by decide) ?_
            refine u_ifF (pc := 26) (tgt := 33) (dec_at lsk_286 (k := 14) rfl) rfl (c0_ne (by decide)) (fun e => absurd e (by decide)) (fun _ => ?_)
            refine u_ld (v := .ref 271) (pc := 33) (dec_at lsk_286 (k := 17) rfl) rfl ?_
            refine u_ld (v := iV l1) (pc := 34) (dec_at lsk_286 (k := 18) rfl) rfl ?_
            refine u_cvV (As := [iV l1]) (rb := 271) (st2 := []) (pc := 35) (dec_at lsk_286 (k := 19) rfl) m_12_526 (Or.inl rfl) rfl (Nat.le_of_ble_eq_true rfl) sx_271 me_269 rfl h (fun u9 h => ?_)
            refine u_ld (v := iV l2) (pc := 38) (dec_at lsk_286 (k := 20) rfl) rfl ?_
            refine u_ld (v := iV 1) (pc := 39) (dec_at lsk_286 (k := 21) rfl) rfl ?_
            refine u_icF (pc := 40) (tgt := 49) (dec_at lsk_286 (k := 22) rfl) rfl (ci_ne g6 (by decide)) (fun e10 => ?_) (fun e10 => ?_)
            · have h := ifT e10 h
              refine u_ld (v := .ref 271) (pc := 43) (dec_at lsk_286 (k := 23) rfl) rfl ?_
              refine u_ld (v := iV l1) (pc := 44) (dec_at lsk_286 (k := 24) rfl) rfl ?_
              refine u_cvL (As := [iV l1]) (rb := 271) (st2 := []) (pc := 45) (dec_at lsk_286 (k := 25) rfl) m_12_555 (Or.inl rfl) rfl (Nat.le_of_ble_eq_true rfl) sx_271 me_287 rfl h (fun r12 u11 h => ?_)
              exact u_rL (pc := 48) (dec_at lsk_286 (k := 26) rfl) rfl h
            · have h := ifF e10 h
              refine u_cl (x := 0) (pc := 49) (dec_at lsk_286 (k := 27) rfl) rfl (by decide) ?_
              refine u_sto (lv' := [.ref 271, iV l1, iV l2, lV 0, .retAddr 0, .retAddr 0, .retAddr 0]) (pc := 50) (dec_at lsk_286 (k := 28) rfl) rfl ?_
              refine u_ld (v := iV 0) (pc := 51) (dec_at lsk_286 (k := 29) rfl) rfl ?_
              refine u_sto (lv' := [.ref 271, iV l1, iV l2, lV 0, .retAddr 0, iV 0, .retAddr 0]) (pc := 52) (dec_at lsk_286 (k := 30) rfl) rfl ?_
              exact h
theorem k_286_54 {d : Nat} {Q : Int → uS → Prop} {u : uS} {l1 l2 l3 l5 : Int} (h : (rI l5) ∧ (if l5 < 16000 then ((rI l2) ∧ (if l2 = 0 then ((0 ≤ l5) ∧ ((rL (u.1 324 l5)) ∧ (if u.1 324 l5 = 6000000000000000000 then (K_286 (d + 1) 54 [.ref 271, iV l1, iV l2, lV (l3 + 0), .retAddr 0, iV (l5 + 1), .retAddr 0] [] u Q) else (K_286 (d + 1) 54 [.ref 271, iV l1, iV l2, lV (l3 + 1), .retAddr 0, iV (l5 + 1), .retAddr 0] [] u Q)))) else (K_286 (d + 1) 97 [.ref 271, iV l1, iV l2, lV l3, .retAddr 0, iV 0, .retAddr 0] [] u Q))) else (K_286 (d + 1) 97 [.ref 271, iV l1, iV l2, lV l3, .retAddr 0, iV 0, .retAddr 0] [] u Q))) : K_286 (d + 1) 54 [.ref 271, iV l1, iV l2, lV l3, .retAddr 0, iV l5, .retAddr 0] [] u Q := by
  unfold K_286
  refine u_ld (v := iV l5) (pc := 54) (dec_at lsk_286 (k := 31) rfl) rfl ?_
  refine u_c (x := 16000) (pc := 56) (dec_at lsk_286 (k := 32) rfl) rfl (by decide) ?_
  have g1 := h.1
  have h := h.2
  refine u_icF (pc := 59) (tgt := 94) (dec_at lsk_286 (k := 33) rfl) rfl (ci_ge g1 (by decide)) (fun e2 => ?_) (fun e2 => ?_)
  · have h := ifT e2 h
    refine u_ld (v := iV l2) (pc := 62) (dec_at lsk_286 (k := 34) rfl) rfl ?_
    have g3 := h.1
    have h := h.2
    refine u_ifF (pc := 63) (tgt := 94) (dec_at lsk_286 (k := 35) rfl) rfl (c0_ne g3) (fun e4 => ?_) (fun e4 => ?_)
    · have h := ifT e4 h
      refine u_ld (v := lV l3) (pc := 66) (dec_at lsk_286 (k := 36) rfl) rfl ?_
      refine u_ld (v := .ref 271) (pc := 67) (dec_at lsk_286 (k := 37) rfl) rfl ?_
      refine u_gS (o := 53) (p := 324) (pc := 68) (dec_at lsk_286 (k := 38) rfl) f_12_169 sx_271 rfl rfl ?_
      refine u_ld (v := iV l5) (pc := 71) (dec_at lsk_286 (k := 39) rfl) rfl ?_
      have g5 := h.1
      have h := h.2
      refine u_lald (pc := 73) (dec_at lsk_286 (k := 40) rfl) sx_324 g5 e2 ?_
      refine u_ldc2 (x := 6000000000000000000) (pc := 74) (dec_at lsk_286 (k := 41) rfl) con_12_487 (by decide) ?_
      refine u_st (st' := [.int (lg_cmp (Int64.ofInt (u.1 324 l5)) (Int64.ofInt 6000000000000000000)), lV l3]) (pc := 77) (dec_at lsk_286 (k := 42) rfl) rfl ?_
      have g6 := h.1
      have h := h.2
      refine u_ifT (pc := 78) (tgt := 85) (dec_at lsk_286 (k := 43) rfl) rfl (cl_eq g6 (by decide)) (fun e7 => ?_) (fun e7 => ?_)
      · have h := ifT e7 h
        refine u_cl (x := 0) (pc := 85) (dec_at lsk_286 (k := 46) rfl) rfl (by decide) ?_
        refine u_ladd (pc := 86) (dec_at lsk_286 (k := 47) rfl) ?_
        refine u_sto (lv' := [.ref 271, iV l1, iV l2, lV (l3 + 0), .retAddr 0, iV l5, .retAddr 0]) (pc := 87) (dec_at lsk_286 (k := 48) rfl) rfl ?_
        refine u_inc (lv' := [.ref 271, iV l1, iV l2, lV (l3 + 0), .retAddr 0, iV (l5 + 1), .retAddr 0]) (pc := 88) (dec_at lsk_286 (k := 49) rfl) rfl (by decide) rfl ?_
        refine u_goto (pc := 91) (tgt := 54) (dec_at lsk_286 (k := 50) rfl) rfl ?_
        exact h
      · have h := ifF e7 h
        refine u_cl (x := 1) (pc := 81) (dec_at lsk_286 (k := 44) rfl) rfl (by decide) ?_
        refine u_goto (pc := 82) (tgt := 86) (dec_at lsk_286 (k := 45) rfl) rfl ?_
        refine u_ladd (pc := 86) (dec_at lsk_286 (k := 47) rfl) ?_
        refine u_sto (lv' := [.ref 271, iV l1, iV l2, lV (l3 + 1), .retAddr 0, iV l5, .retAddr 0]) (pc := 87) (dec_at lsk_286 (k := 48) rfl) rfl ?_
        refine u_inc (lv' := [.ref 271, iV l1, iV l2, lV (l3 + 1), .retAddr 0, iV (l5 + 1), .retAddr 0]) (pc := 88) (dec_at lsk_286 (k := 49) rfl) rfl (by decide) rfl ?_
        refine u_goto (pc := 91) (tgt := 54) (dec_at lsk_286 (k := 50) rfl) rfl ?_
        exact h
    · have h := ifF e4 h
      refine u_ld (v := iV 0) (pc := 94) (dec_at lsk_286 (k := 51) rfl) rfl ?_
      refine u_sto (lv' := [.ref 271, iV l1, iV l2, lV l3, .retAddr 0, iV 0, .retAddr 0]) (pc := 95) (dec_at lsk_286 (k := 52) rfl) rfl ?_
      exact h
  · have h := ifF e2 h
    refine u_ld (v := iV 0) (pc := 94) (dec_at lsk_286 (k := 51) rfl) rfl ?_
    refine u_sto (lv' := [.ref 271, iV l1, iV l2, lV l3, .retAddr 0, iV 0, .retAddr 0]) (pc := 95) (dec_at lsk_286 (k := 52) rfl) rfl ?_
    exact h
theorem k_286_97 {d : Nat} {Q : Int → uS → Prop} {u : uS} {l1 l2 l3 l5 : Int} (h : (rI l5) ∧ ((rI (u.1 271 6)) ∧ (if l5 < u.1 271 6 then ((rI l2) ∧ (if l2 = 2 then (K_286 (d + 1) 114 [.ref 271, iV l1, iV l2, lV l3, .retAddr 0, iV l5, iV 0] [] u Q) else (Q l3 u))) else (Q l3 u)))) : K_286 (d + 1) 97 [.ref 271, iV l1, iV l2, lV l3, .retAddr 0, iV l5, .retAddr 0] [] u Q := by
  unfold K_286
  refine u_ld (v := iV l5) (pc := 97) (dec_at lsk_286 (k := 53) rfl) rfl ?_
  refine u_ld (v := .ref 271) (pc := 99) (dec_at lsk_286 (k := 54) rfl) rfl ?_
  refine u_gI (z := 6) (pc := 100) (dec_at lsk_286 (k := 55) rfl) f_12_306 sx_271 rfl rfl ?_
  have g1 := h.1
  have h := h.2
  have g2 := h.1
  have h := h.2
  refine u_icF (pc := 103) (tgt := 151) (dec_at lsk_286 (k := 56) rfl) rfl (ci_ge g1 g2) (fun e3 => ?_) (fun e3 => ?_)
  · have h := ifT e3 h
    refine u_ld (v := iV l2) (pc := 106) (dec_at lsk_286 (k := 57) rfl) rfl ?_
    refine u_ld (v := iV 2) (pc := 107) (dec_at lsk_286 (k := 58) rfl) rfl ?_
    have g4 := h.1
    have h := h.2
    refine u_icF (pc := 108) (tgt := 151) (dec_at lsk_286 (k := 59) rfl) rfl (ci_ne g4 (by decide)) (fun e5 => ?_) (fun e5 => ?_)
    · have h := ifT e5 h
      refine u_ld (v := iV 0) (pc := 111) (dec_at lsk_286 (k := 60) rfl) rfl ?_
      refine u_sto (lv' := [.ref 271, iV l1, iV l2, lV l3, .retAddr 0, iV l5, iV 0]) (pc := 112) (dec_at lsk_286 (k := 61) rfl) rfl ?_
      exact h
    · have h := ifF e5 h
      refine u_ld (v := lV l3) (pc := 151) (dec_at lsk_286 (k := 80) rfl) rfl ?_
      exact u_rL (pc := 152) (dec_at lsk_286 (k := 81) rfl) rfl h
  · have h := ifF e3 h
    refine u_ld (v := lV l3) (pc := 151) (dec_at lsk_286 (k := 80) rfl) rfl ?_
    exact u_rL (pc := 152) (dec_at lsk_286 (k := 81) rfl) rfl h
theorem k_286_114 {d : Nat} {Q : Int → uS → Prop} {u : uS} {l1 l2 l3 l5 l6 : Int} (h : (0 ≤ l1) ∧ ((l1 < 100) ∧ ((rI l6) ∧ ((rI (u.1 301 l1)) ∧ (if l6 < u.1 301 l1 then (cL (d + 1) 289 [.ref 271, iV l1, iV l5, iV l6] u (fun r7 u6 => (cn 5000000000000000000 l3) ∧ ((cn 5000000000000000000 r7) ∧ (K_286 (d + 1) 114 [.ref 271, iV l1, iV l2, lV (pl 5000000000000000000 l3 r7), .retAddr 0, iV l5, iV (l6 + 1)] [] u6 Q)))) else (K_286 (d + 1) 97 [.ref 271, iV l1, iV l2, lV l3, .retAddr 0, iV (l5 + 1), .retAddr 0] [] u Q)))))) : K_286 (d + 1) 114 [.ref 271, iV l1, iV l2, lV l3, .retAddr 0, iV l5, iV l6] [] u Q := by
  unfold K_286
  refine u_ld (v := iV l6) (pc := 114) (dec_at lsk_286 (k := 62) rfl) rfl ?_
  refine u_ld (v := .ref 271) (pc := 116) (dec_at lsk_286 (k := 63) rfl) rfl ?_
  refine u_gS (o := 30) (p := 301) (pc := 117) (dec_at lsk_286 (k := 64) rfl) f_12_99 sx_271 rfl rfl ?_
  refine u_ld (v := iV l1) (pc := 120) (dec_at lsk_286 (k := 65) rfl) rfl ?_
  have g1 := h.1
  have h := h.2
  have g2 := h.1
  have h := h.2
  refine u_iald (pc := 121) (dec_at lsk_286 (k := 66) rfl) sx_301 g1 g2 ?_
  have g3 := h.1
  have h := h.2
  have g4 := h.1
  have h := h.2
  refine u_icF (pc := 122) (tgt := 145) (dec_at lsk_286 (k := 67) rfl) rfl (ci_ge g3 g4) (fun e5 => ?_) (fun e5 => ?_)
  · have h := ifT e5 h
    refine u_ld (v := lV l3) (pc := 125) (dec_at lsk_286 (k := 68) rfl) rfl ?_
    refine u_ld (v := .ref 271) (pc := 126) (dec_at lsk_286 (k := 69) rfl) rfl ?_
    refine u_ld (v := iV l1) (pc := 127) (dec_at lsk_286 (k := 70) rfl) rfl ?_
    refine u_ld (v := iV l5) (pc := 128) (dec_at lsk_286 (k := 71) rfl) rfl ?_
    refine u_ld (v := iV l6) (pc := 130) (dec_at lsk_286 (k := 72) rfl) rfl ?_
    refine u_cvL (As := [iV l1, iV l5, iV l6]) (rb := 271) (st2 := [lV l3]) (pc := 132) (dec_at lsk_286 (k := 73) rfl) m_12_559 (Or.inl rfl) rfl (Nat.le_of_ble_eq_true rfl) sx_271 me_289 rfl h (fun r7 u6 h => ?_)
    have g8 := h.1
    have h := h.2
    have g9 := h.1
    have h := h.2
    refine u_csL (As := [lV l3, lV r7]) (st2 := []) (pc := 135) (dec_at lsk_286 (k := 74) rfl) m_12_323 (Or.inl rfl) rfl (Nat.le_of_ble_eq_true rfl) (p_217 g8 g9) (fun r_ u_ h_ => ?_)
    rw [h_.1, h_.2]
    refine u_sto (lv' := [.ref 271, iV l1, iV l2, lV (pl 5000000000000000000 l3 r7), .retAddr 0, iV l5, iV l6]) (pc := 138) (dec_at lsk_286 (k := 75) rfl) rfl ?_
    refine u_inc (lv' := [.ref 271, iV l1, iV l2, lV (pl 5000000000000000000 l3 r7), .retAddr 0, iV l5, iV (l6 + 1)]) (pc := 139) (dec_at lsk_286 (k := 76) rfl) rfl (by decide) rfl ?_
    refine u_goto (pc := 142) (tgt := 114) (dec_at lsk_286 (k := 77) rfl) rfl ?_
    exact h
  · have h := ifF e5 h
    refine u_inc (lv' := [.ref 271, iV l1, iV l2, lV l3, .retAddr 0, iV (l5 + 1), iV l6]) (pc := 145) (dec_at lsk_286 (k := 78) rfl) rfl (by decide) rfl ?_
    refine u_goto (pc := 148) (tgt := 97) (dec_at lsk_286 (k := 79) rfl) rfl ?_
    exact u_weak (sbK (sbK (sbK (sbK (sbK (sbK (sbD sb0))))))) h
/-- method 287 -/
def K_287 (d pc : Nat) (lv : ev_L) (st : List Value) (u : uS) (Q : Int → uS → Prop) : Prop := okU d 12 5 false (some .long) prog_14_method_90_code (qL Q) pc lv st u
theorem e_287 {d : Nat} {Q : Int → uS → Prop} {u : uS} {l1 : Int} (h : K_287 (d + 1) 2 [.ref 271, iV l1, iV 0, .retAddr 0, .retAddr 0] [] u Q) : cL (d + 2) 287 [.ref 271, iV l1] u Q := by
  refine u_of me_287 (Nat.le_of_ble_eq_true rfl) ?_
  refine u_ld (v := iV 0) (pc := 0) (dec_at lsk_287 (k := 0) rfl) rfl ?_
  refine u_sto (lv' := [.ref 271, iV l1, iV 0, .retAddr 0, .retAddr 0]) (pc := 1) (dec_at lsk_287 (k := 1) rfl) rfl ?_
  exact h
theorem k_287_2 {d : Nat} {Q : Int → uS → Prop} {u : uS} {l1 l2 : Int} (h : (rI l2) ∧ (if l2 < 16000 then ((0 ≤ l2) ∧ (∀ u4 : uS, u4 = wr u 340 l2 0 → (K_287 (d + 1) 2 [.ref 271, iV l1, iV (l2 + 1), .retAddr 0, .retAddr 0] [] u4 Q))) else (K_287 (d + 1) 26 [.ref 271, iV l1, iV 0, iV 0, .retAddr 0] [] u Q))) : K_287 (d + 1) 2 [.ref 271, iV l1, iV l2, .retAddr 0, .retAddr 0] [] u Q := by
  unfold K_287
  refine u_ld (v := iV l2) (pc := 2) (dec_at lsk_287 (k := 2) rfl) rfl ?_
  refine u_c (x := 16000) (pc := 3) (dec_at lsk_287 (k := 3) rfl) rfl (by decide) ?_
  have g1 := h.1
  have h := h.2
  refine u_icF (pc := 6) (tgt := 22) (dec_at lsk_287 (k := 4) rfl) rfl (ci_ge g1 (by decide)) (fun e2 => ?_) (fun e2 => ?_)
  · have h := ifT e2 h
    refine u_ld (v := .ref 271) (pc := 9) (dec_at lsk_287 (k := 5) rfl) rfl ?_
    refine u_gS (o := 69) (p := 340) (pc := 10) (dec_at lsk_287 (k := 6) rfl) f_12_220 sx_271 rfl rfl ?_
    refine u_ld (v := iV l2) (pc := 13) (dec_at lsk_287 (k := 7) rfl) rfl ?_
    refine u_ld (v := iV 0) (pc := 14) (dec_at lsk_287 (k := 8) rfl) rfl ?_
    have g3 := h.1
    have h := h.2
    refine u_zast (pc := 15) (dec_at lsk_287 (k := 9) rfl) sx_340 g3 e2 (by decide) (fun u4 e5 => ?_)
    have h := h u4 e5
    refine u_inc (lv' := [.ref 271, iV l1, iV (l2 + 1), .retAddr 0, .retAddr 0]) (pc := 16) (dec_at lsk_287 (k := 10) rfl) rfl (by decide) rfl ?_
    refine u_goto (pc := 19) (tgt := 2) (dec_at lsk_287 (k := 11) rfl) rfl ?_
    exact h
  · have h := ifF e2 h
    refine u_ld (v := iV 0) (pc := 22) (dec_at lsk_287 (k := 12) rfl) rfl ?_
    refine u_sto (lv' := [.ref 271, iV l1, iV 0, .retAddr 0, .retAddr 0]) (pc := 23) (dec_at lsk_287 (k := 13) rfl) rfl ?_
    refine u_ld (v := iV 0) (pc := 24) (dec_at lsk_287 (k := 14) rfl) rfl ?_
    refine u_sto (lv' := [.ref 271, iV l1, iV 0, iV 0, .retAddr 0]) (pc := 25) (dec_at lsk_287 (k := 15) rfl) rfl ?_
    exact h
theorem k_287_26 {d : Nat} {Q : Int → uS → Prop} {u : uS} {l1 l2 l3 : Int} (h : (0 ≤ l1) ∧ ((l1 < 100) ∧ ((rI l3) ∧ ((rI (u.1 301 l1)) ∧ (if l3 < u.1 301 l1 then ((0 ≤ (((10 * 0) + 0) * 40) + l3) ∧ (((((10 * 0) + 0) * 40) + l3 < 16000) ∧ ((rL (u.1 324 ((((10 * 0) + 0) * 40) + l3))) ∧ (if u.1 324 ((((10 * 0) + 0) * 40) + l3) = 6000000000000000000 then (K_287 (d + 1) 26 [.ref 271, iV l1, iV l2, iV (l3 + 1), .retAddr 0] [] u Q) else (∀ u10 : uS, u10 = wr u 340 ((((10 * 0) + 0) * 40) + l3) 1 → ((0 ≤ l2) ∧ ((l2 < 120000) ∧ (∀ u14 : uS, u14 = wr u10 339 l2 ((((10 * 0) + 0) * 40) + l3) → (K_287 (d + 1) 26 [.ref 271, iV l1, iV (l2 + 1), iV (l3 + 1), .retAddr 0] [] u14 Q))))))))) else (K_287 (d + 1) 85 [.ref 271, iV l1, iV l2, lV 0, .retAddr 0] [] u Q)))))) : K_287 (d + 1) 26 [.ref 271, iV l1, iV l2, iV l3, .retAddr 0] [] u Q := by
  unfold K_287
  refine u_ld (v := iV l3) (pc := 26) (dec_at lsk_287 (k := 16) rfl) rfl ?_
  refine u_ld (v := .ref 271) (pc := 27) (dec_at lsk_287 (k := 17) rfl) rfl ?_
  refine u_gS (o := 30) (p := 301) (pc := 28) (dec_at lsk_287 (k := 18) rfl) f_12_99 sx_271 rfl rfl ?_
  refine u_ld (v := iV l1) (pc := 31) (dec_at lsk_287 (k := 19) rfl) rfl ?_
  have g1 := h.1
  have h := h.2
  have g2 := h.1
  have h := h.2
  refine u_iald (pc := 32) (dec_at lsk_287 (k := 20) rfl) sx_301 g1 g2 ?_
  have g3 := h.1
  have h := h.2
  have g4 := h.1
  have h := h.2
  refine u_icF (pc := 33) (tgt := 83) (dec_at lsk_287 (k := 21) rfl) rfl (ci_ge g3 g4) (fun e5 => ?_) (fun e5 => ?_)
  · have h := ifT e5 h
    refine u_ld (v := iV 0) (pc := 36) (dec_at lsk_287 (k := 22) rfl) rfl ?_
    refine u_ld (v := iV 0) (pc := 37) (dec_at lsk_287 (k := 23) rfl) rfl ?_
    refine u_ld (v := iV l3) (pc := 38) (dec_at lsk_287 (k := 24) rfl) rfl ?_
    refine u_csI (As := [iV 0, iV 0, iV l3]) (st2 := []) (pc := 39) (dec_at lsk_287 (k := 25) rfl) m_12_494 (Or.inl rfl) rfl (Nat.le_of_ble_eq_true rfl) ?_ (fun _ _ h_ => h_)
    refine u_of me_274 (Nat.le_of_ble_eq_true rfl) ?_
    refine u_c (x := 10) (pc := 0) (dec_at lsk_274 (k := 0) rfl) rfl (by decide) ?_
    refine u_ld (v := iV 0) (pc := 2) (dec_at lsk_274 (k := 1) rfl) rfl ?_
    refine u_imul (pc := 3) (dec_at lsk_274 (k := 2) rfl) ?_
    refine u_ld (v := iV 0) (pc := 4) (dec_at lsk_274 (k := 3) rfl) rfl ?_
    refine u_iadd (pc := 5) (dec_at lsk_274 (k := 4) rfl) ?_
    refine u_c (x := 40) (pc := 6) (dec_at lsk_274 (k := 5) rfl) rfl (by decide) ?_
    refine u_imul (pc := 8) (dec_at lsk_274 (k := 6) rfl) ?_
    refine u_ld (v := iV l3) (pc := 9) (dec_at lsk_274 (k := 7) rfl) rfl ?_
    refine u_iadd (pc := 10) (dec_at lsk_274 (k := 8) rfl) ?_
    refine u_rI (pc := 11) (dec_at lsk_274 (k := 9) rfl) rfl ?_
    refine u_sto (lv' := [.ref 271, iV l1, iV l2, iV l3, iV ((((10 * 0) + 0) * 40) + l3)]) (pc := 42) (dec_at lsk_287 (k := 26) rfl) rfl ?_
    refine u_ld (v := .ref 271) (pc := 44) (dec_at lsk_287 (k := 27) rfl) rfl ?_
    refine u_gS (o := 53) (p := 324) (pc := 45) (dec_at lsk_287 (k := 28) rfl) f_12_169 sx_271 rfl rfl ?_
    refine u_ld (v := iV ((((10 * 0) + 0) * 40) + l3)) (pc := 48) (dec_at lsk_287 (k := 29) rfl) rfl ?_
    have g6 := h.1
    have h := h.2
    have g7 := h.1
    have h := h.2
    refine u_lald (pc := 50) (dec_at lsk_287 (k := 30) rfl) sx_324 g6 g7 ?_
    refine u_ldc2 (x := 6000000000000000000) (pc := 51) (dec_at lsk_287 (k := 31) rfl) con_12_487 (by decide) ?_
    refine u_st (st' := [.int (lg_cmp (Int64.ofInt (u.1 324 ((((10 * 0) + 0) * 40) + l3))) (Int64.ofInt 6000000000000000000))]) (pc := 54) (dec_at lsk_287 (k := 32) rfl) rfl ?_
    have g8 := h.1
    have h := h.2
    refine u_ifT (pc := 55) (tgt := 77) (dec_at lsk_287 (k := 33) rfl) rfl (cl_eq g8 (by decide)) (fun e9 => ?_) (fun e9 => ?_)
    · have h := ifT e9 h
      refine u_inc (lv' := [.ref 271, iV l1, iV l2, iV (l3 + 1), iV ((((10 * 0) + 0) * 40) + l3)]) (pc := 77) (dec_at lsk_287 (k := 45) rfl) rfl (by decide) rfl ?_
      refine u_goto (pc := 80) (tgt := 26) (dec_at lsk_287 (k := 46) rfl) rfl ?_
      exact u_weak (sbK (sbK (sbK (sbK (sbD sb0))))) h
    · have h := ifF e9 h
      refine u_ld (v := .ref 271) (pc := 58) (dec_at lsk_287 (k := 34) rfl) rfl ?_
      refine u_gS (o := 69) (p := 340) (pc := 59) (dec_at lsk_287 (k := 35) rfl) f_12_220 sx_271 rfl rfl ?_
      refine u_ld (v := iV ((((10 * 0) + 0) * 40) + l3)) (pc := 62) (dec_at lsk_287 (k := 36) rfl) rfl ?_
      refine u_ld (v := iV 1) (pc := 64) (dec_at lsk_287 (k := 37) rfl) rfl ?_
      refine u_zast (pc := 65) (dec_at lsk_287 (k := 38) rfl) sx_340 g6 g7 (by decide) (fun u10 e11 => ?_)
      have h := h u10 e11
      refine u_ld (v := .ref 271) (pc := 66) (dec_at lsk_287 (k := 39) rfl) rfl ?_
      refine u_gS (o := 68) (p := 339) (pc := 67) (dec_at lsk_287 (k := 40) rfl) f_12_217 sx_271 rfl rfl ?_
      refine u_ld (v := iV l2) (pc := 70) (dec_at lsk_287 (k := 41) rfl) rfl ?_
      refine u_ld (v := iV ((((10 * 0) + 0) * 40) + l3)) (pc := 71) (dec_at lsk_287 (k := 42) rfl) rfl ?_
      have g12 := h.1
      have h := h.2
      have g13 := h.1
      have h := h.2
      refine u_iast (pc := 73) (dec_at lsk_287 (k := 43) rfl) sx_339 g12 g13 (fun u14 e15 => ?_)
      have h := h u14 e15
      refine u_inc (lv' := [.ref 271, iV l1, iV (l2 + 1), iV l3, iV ((((10 * 0) + 0) * 40) + l3)]) (pc := 74) (dec_at lsk_287 (k := 44) rfl) rfl (by decide) rfl ?_
      refine u_inc (lv' := [.ref 271, iV l1, iV (l2 + 1), iV (l3 + 1), iV ((((10 * 0) + 0) * 40) + l3)]) (pc := 77) (dec_at lsk_287 (k := 45) rfl) rfl (by decide) rfl ?_
      refine u_goto (pc := 80) (tgt := 26) (dec_at lsk_287 (k := 46) rfl) rfl ?_
      exact u_weak (sbK (sbK (sbK (sbK (sbD sb0))))) h
  · have h := ifF e5 h
    refine u_cl (x := 0) (pc := 83) (dec_at lsk_287 (k := 47) rfl) rfl (by decide) ?_
    refine u_sto (lv' := [.ref 271, iV l1, iV l2, lV 0, .retAddr 0]) (pc := 84) (dec_at lsk_287 (k := 48) rfl) rfl ?_
    exact h
theorem k_287_85 {d : Nat} {Q : Int → uS → Prop} {u : uS} {l1 l2 l3 : Int} (h : (rI l2) ∧ (if 0 < l2 then ((0 ≤ l2 + (-1)) ∧ ((l2 + (-1) < 120000) ∧ (cI (d + 1) 288 [.ref 271, iV l1, iV (u.1 339 (l2 + (-1))), iV (l2 + (-1))] u (fun r6 u5 => K_287 (d + 1) 85 [.ref 271, iV l1, iV r6, lV (l3 + 1), .retAddr 0] [] u5 Q)))) else (Q l3 u))) : K_287 (d + 1) 85 [.ref 271, iV l1, iV l2, lV l3, .retAddr 0] [] u Q := by
  unfold K_287
  refine u_ld (v := iV l2) (pc := 85) (dec_at lsk_287 (k := 49) rfl) rfl ?_
  have g1 := h.1
  have h := h.2
  refine u_ifF (pc := 86) (tgt := 112) (dec_at lsk_287 (k := 50) rfl) rfl (c0_le g1) (fun e2 => ?_) (fun e2 => ?_)
  · have h := ifT e2 h
    refine u_inc (lv' := [.ref 271, iV l1, iV (l2 + (-1)), lV l3, .retAddr 0]) (pc := 89) (dec_at lsk_287 (k := 51) rfl) rfl (by decide) rfl ?_
    refine u_ld (v := lV l3) (pc := 92) (dec_at lsk_287 (k := 52) rfl) rfl ?_
    refine u_cl (x := 1) (pc := 93) (dec_at lsk_287 (k := 53) rfl) rfl (by decide) ?_
    refine u_ladd (pc := 94) (dec_at lsk_287 (k := 54) rfl) ?_
    refine u_sto (lv' := [.ref 271, iV l1, iV (l2 + (-1)), lV (l3 + 1), .retAddr 0]) (pc := 95) (dec_at lsk_287 (k := 55) rfl) rfl ?_
    refine u_ld (v := .ref 271) (pc := 96) (dec_at lsk_287 (k := 56) rfl) rfl ?_
    refine u_ld (v := iV l1) (pc := 97) (dec_at lsk_287 (k := 57) rfl) rfl ?_
    refine u_ld (v := .ref 271) (pc := 98) (dec_at lsk_287 (k := 58) rfl) rfl ?_
    refine u_gS (o := 68) (p := 339) (pc := 99) (dec_at lsk_287 (k := 59) rfl) f_12_217 sx_271 rfl rfl ?_
    refine u_ld (v := iV (l2 + (-1))) (pc := 102) (dec_at lsk_287 (k := 60) rfl) rfl ?_
    have g3 := h.1
    have h := h.2
    have g4 := h.1
    have h := h.2
    refine u_iald (pc := 103) (dec_at lsk_287 (k := 61) rfl) sx_339 g3 g4 ?_
    refine u_ld (v := iV (l2 + (-1))) (pc := 104) (dec_at lsk_287 (k := 62) rfl) rfl ?_
    refine u_cvI (As := [iV l1, iV (u.1 339 (l2 + (-1))), iV (l2 + (-1))]) (rb := 271) (st2 := []) (pc := 105) (dec_at lsk_287 (k := 63) rfl) m_12_550 (Or.inl rfl) rfl (Nat.le_of_ble_eq_true rfl) sx_271 me_288 rfl h (fun r6 u5 h => ?_)
    refine u_sto (lv' := [.ref 271, iV l1, iV r6, lV (l3 + 1), .retAddr 0]) (pc := 108) (dec_at lsk_287 (k := 64) rfl) rfl ?_
    refine u_goto (pc := 109) (tgt := 85) (dec_at lsk_287 (k := 65) rfl) rfl ?_
    exact h
  · have h := ifF e2 h
    refine u_ld (v := lV l3) (pc := 112) (dec_at lsk_287 (k := 66) rfl) rfl ?_
    exact u_rL (pc := 113) (dec_at lsk_287 (k := 67) rfl) rfl h
/-- method 288 -/
def K_288 (d pc : Nat) (lv : ev_L) (st : List Value) (u : uS) (Q : Int → uS → Prop) : Prop := okU d 12 15 false (some .int) prog_14_method_89_code (qI Q) pc lv st u
theorem e_288 {d : Nat} {Q : Int → uS → Prop} {u : uS} {l1 l2 l3 : Int} (h : (rI l2) ∧ ((rI (l2.tdiv 40)) ∧ (K_288 (d + 1) 21 [.ref 271, iV l1, iV l2, .retAddr 0, iV l3, iV (l2.tmod 40), iV ((l2.tdiv 40).tdiv 10), iV 0, .retAddr 0, .retAddr 0, .retAddr 0, .retAddr 0, .retAddr 0, .retAddr 0, .retAddr 0] [] u Q))) : cI (d + 2) 288 [.ref 271, iV l1, iV l2, iV l3] u Q := by
  refine u_of me_288 (Nat.le_of_ble_eq_true rfl) ?_
  refine u_ld (v := iV l3) (pc := 0) (dec_at lsk_288 (k := 0) rfl) rfl ?_
  refine u_sto (lv' := [.ref 271, iV l1, iV l2, iV l3, iV l3, .retAddr 0, .retAddr 0, .retAddr 0, .retAddr 0, .retAddr 0, .retAddr 0, .retAddr 0, .retAddr 0, .retAddr 0, .retAddr 0]) (pc := 1) (dec_at lsk_288 (k := 1) rfl) rfl ?_
  refine u_ld (v := iV l2) (pc := 3) (dec_at lsk_288 (k := 2) rfl) rfl ?_
  refine u_c (x := 40) (pc := 4) (dec_at lsk_288 (k := 3) rfl) rfl (by decide) ?_
  have g1 := h.1
  have h := h.2
  refine u_irem (pc := 6) (dec_at lsk_288 (k := 4) rfl) g1 (by decide) (by decide) ?_
  refine u_sto (lv' := [.ref 271, iV l1, iV l2, iV l3, iV l3, iV (l2.tmod 40), .retAddr 0, .retAddr 0, .retAddr 0, .retAddr 0, .retAddr 0, .retAddr 0, .retAddr 0, .retAddr 0, .retAddr 0]) (pc := 7) (dec_at lsk_288 (k := 5) rfl) rfl ?_
  refine u_ld (v := iV l2) (pc := 9) (dec_at lsk_288 (k := 6) rfl) rfl ?_
  refine u_c (x := 40) (pc := 10) (dec_at lsk_288 (k := 7) rfl) rfl (by decide) ?_
  refine u_idiv (pc := 12) (dec_at lsk_288 (k := 8) rfl) g1 (by decide) (by decide) ?_
  refine u_c (x := 10) (pc := 13) (dec_at lsk_288 (k := 9) rfl) rfl (by decide) ?_
  have g2 := h.1
  have h := h.2
  refine u_idiv (pc := 15) (dec_at lsk_288 (k := 10) rfl) g2 (by decide) (by decide) ?_
  refine u_sto (lv' := [.ref 271, iV l1, iV l2, iV l3, iV l3, iV (l2.tmod 40), iV ((l2.tdiv 40).tdiv 10), .retAddr 0, .retAddr 0, .retAddr 0, .retAddr 0, .retAddr 0, .retAddr 0, .retAddr 0, .retAddr 0]) (pc := 16) (dec_at lsk_288 (k := 11) rfl) rfl ?_
  refine u_ld (v := iV 0) (pc := 18) (dec_at lsk_288 (k := 12) rfl) rfl ?_
  refine u_sto (lv' := [.ref 271, iV l1, iV l2, iV l3, iV l3, iV (l2.tmod 40), iV ((l2.tdiv 40).tdiv 10), iV 0, .retAddr 0, .retAddr 0, .retAddr 0, .retAddr 0, .retAddr 0, .retAddr 0, .retAddr 0]) (pc := 19) (dec_at lsk_288 (k := 13) rfl) rfl ?_
  exact u_weak (sbK (sbK (sbK (sbD (sbK (sbK (sbK (sbK (sbK (sbK (sbK (sbK (sbK (sbK (sbK sb0))))))))))))))) h
theorem k_288_21 {d : Nat} {Q : Int → uS → Prop} {u : uS} {l1 l2 l4 l5 l6 l7 : Int} (h : (rI l7) ∧ ((rI (u.1 271 6)) ∧ (if l7 < u.1 271 6 then ((0 ≤ l7) ∧ ((l7 < 30) ∧ ((rI l2) ∧ ((rI (l2.tdiv 40)) ∧ ((rI (u.1 275 l7)) ∧ ((rI ((l2.tdiv 40).tmod 10)) ∧ (if u.1 275 l7 = (l2.tdiv 40).tmod 10 then (cV (d + 1) 271 [.ref 271, iV l1, iV l7, iV l6] u (fun u11 => cV (d + 1) 278 [.ref 271, iV l1, iV l7, iV l5] u11 (fun u12 => K_288 (d + 1) 71 [.ref 271, iV l1, iV l2, .retAddr 0, iV l4, iV l5, iV l6, iV l7, iV 0, .retAddr 0, .retAddr 0, .retAddr 0, .retAddr 0, .retAddr 0, .retAddr 0] [] u12 Q))) else (K_288 (d + 1) 21 [.ref 271, iV l1, iV l2, .retAddr 0, iV l4, iV l5, iV l6, iV (l7 + 1), .retAddr 0, .retAddr 0, .retAddr 0, .retAddr 0, .retAddr 0, .retAddr 0, .retAddr 0] [] u Q)))))))) else (Q l4 u)))) : K_288 (d + 1) 21 [.ref 271, iV l1, iV l2, .retAddr 0, iV l4, iV l5, iV l6, iV l7, .retAddr 0, .retAddr 0, .retAddr 0, .retAddr 0, .retAddr 0, .retAddr 0, .retAddr 0] [] u Q := by
  unfold K_288
  refine u_ld (v := iV l7) (pc := 21) (dec_at lsk_288 (k := 14) rfl) rfl ?_
  refine u_ld (v := .ref 271) (pc := 23) (dec_at lsk_288 (k := 15) rfl) rfl ?_
  refine u_gI (z := 6) (pc := 24) (dec_at lsk_288 (k := 16) rfl) f_12_306 sx_271 rfl rfl ?_
  have g1 := h.1
  have h := h.2
  have g2 := h.1
  have h := h.2
  refine u_icF (pc := 27) (tgt := 278) (dec_at lsk_288 (k := 17) rfl) rfl (ci_ge g1 g2) (fun e3 => ?_) (fun e3 => ?_)
  · have h := ifT e3 h
    refine u_ld (v := .ref 271) (pc := 30) (dec_at lsk_288 (k := 18) rfl) rfl ?_
    refine u_gS (o := 4) (p := 275) (pc := 31) (dec_at lsk_288 (k := 19) rfl) f_12_19 sx_271 rfl rfl ?_
    refine u_ld (v := iV l7) (pc := 34) (dec_at lsk_288 (k := 20) rfl) rfl ?_
    have g4 := h.1
    have h := h.2
    have g5 := h.1
    have h := h.2
    refine u_iald (pc := 36) (dec_at lsk_288 (k := 21) rfl) sx_275 g4 g5 ?_
    refine u_ld (v := iV l2) (pc := 37) (dec_at lsk_288 (k := 22) rfl) rfl ?_
    refine u_c (x := 40) (pc := 38) (dec_at lsk_288 (k := 23) rfl) rfl (by decide) ?_
    have g6 := h.1
    have h := h.2
    refine u_idiv (pc := 40) (dec_at lsk_288 (k := 24) rfl) g6 (by decide) (by decide) ?_
    refine u_c (x := 10) (pc := 41) (dec_at lsk_288 (k := 25) rfl) rfl (by decide) ?_
    have g7 := h.1
    have h := h.2
    refine u_irem (pc := 43) (dec_at lsk_288 (k := 26) rfl) g7 (by decide) (by decide) ?_
    have g8 := h.1
    have h := h.2
    have g9 := h.1
    have h := h.2
    refine u_icT (pc := 44) (tgt := 50) (dec_at lsk_288 (k := 27) rfl) rfl (ci_eq g8 g9) (fun e10 => ?_) (fun e10 => ?_)
    · have h := ifT e10 h
      refine u_ld (v := .ref 271) (pc := 50) (dec_at lsk_288 (k := 29) rfl) rfl ?_
      refine u_ld (v := iV l1) (pc := 51) (dec_at lsk_288 (k := 30) rfl) rfl ?_
      refine u_ld (v := iV l7) (pc := 52) (dec_at lsk_288 (k := 31) rfl) rfl ?_
      refine u_ld (v := iV l6) (pc := 54) (dec_at lsk_288 (k := 32) rfl) rfl ?_
      refine u_cvV (As := [iV l1, iV l7, iV l6]) (rb := 271) (st2 := []) (pc := 56) (dec_at lsk_288 (k := 33) rfl) m_12_504 (Or.inl rfl) rfl (Nat.le_of_ble_eq_true rfl) sx_271 me_271 rfl h (fun u11 h => ?_)
      refine u_ld (v := .ref 271) (pc := 59) (dec_at lsk_288 (k := 34) rfl) rfl ?_
      refine u_ld (v := iV l1) (pc := 60) (dec_at lsk_288 (k := 35) rfl) rfl ?_
      refine u_ld (v := iV l7) (pc := 61) (dec_at lsk_288 (k := 36) rfl) rfl ?_
      refine u_ld (v := iV l5) (pc := 63) (dec_at lsk_288 (k := 37) rfl) rfl ?_
      refine u_cvV (As := [iV l1, iV l7, iV l5]) (rb := 271) (st2 := []) (pc := 65) (dec_at lsk_288 (k := 38) rfl) m_12_516 (Or.inl rfl) rfl (Nat.le_of_ble_eq_true rfl) sx_271 me_278 rfl h (fun u12 h => ?_)
      refine u_ld (v := iV 0) (pc := 68) (dec_at lsk_288 (k := 39) rfl) rfl ?_
      refine u_sto (lv' := [.ref 271, iV l1, iV l2, .retAddr 0, iV l4, iV l5, iV l6, iV l7, iV 0, .retAddr 0, .retAddr 0, .retAddr 0, .retAddr 0, .retAddr 0, .retAddr 0]) (pc := 69) (dec_at lsk_288 (k := 40) rfl) rfl ?_
      exact h
    · have h := ifF e10 h
      refine u_goto (pc := 47) (tgt := 272) (dec_at lsk_288 (k := 28) rfl) rfl ?_
      refine u_inc (lv' := [.ref 271, iV l1, iV l2, .retAddr 0, iV l4, iV l5, iV l6, iV (l7 + 1), .retAddr 0, .retAddr 0, .retAddr 0, .retAddr 0, .retAddr 0, .retAddr 0, .retAddr 0]) (pc := 272) (dec_at lsk_288 (k := 150) rfl) rfl (by decide) rfl ?_
      refine u_goto (pc := 275) (tgt := 21) (dec_at lsk_288 (k := 151) rfl) rfl ?_
      exact h
  · have h := ifF e3 h
    refine u_ld (v := iV l4) (pc := 278) (dec_at lsk_288 (k := 152) rfl) rfl ?_
    exact u_rI (pc := 280) (dec_at lsk_288 (k := 153) rfl) rfl h
theorem k_288_71 {d : Nat} {Q : Int → uS → Prop} {u : uS} {l1 l2 l4 l5 l6 l7 l8 : Int} (h : (0 ≤ l7) ∧ ((l7 < 30) ∧ ((rI l8) ∧ ((rI (u.1 276 l7)) ∧ (if l8 < u.1 276 l7 then ((0 ≤ (6 * l7) + l8) ∧ (((6 * l7) + l8 < 180) ∧ (K_288 (d + 1) 101 [.ref 271, iV l1, iV l2, .retAddr 0, iV l4, iV l5, iV l6, iV l7, iV l8, iV (u.1 277 ((6 * l7) + l8)), iV 0, .retAddr 0, .retAddr 0, .retAddr 0, .retAddr 0] [] u Q))) else (K_288 (d + 1) 21 [.ref 271, iV l1, iV l2, .retAddr 0, iV l4, iV l5, iV l6, iV (l7 + 1), .retAddr 0, .retAddr 0, .retAddr 0, .retAddr 0, .retAddr 0, .retAddr 0, .retAddr 0] [] u Q)))))) : K_288 (d + 1) 71 [.ref 271, iV l1, iV l2, .retAddr 0, iV l4, iV l5, iV l6, iV l7, iV l8, .retAddr 0, .retAddr 0, .retAddr 0, .retAddr 0, .retAddr 0, .retAddr 0] [] u Q := by
  unfold K_288
  refine u_ld (v := iV l8) (pc := 71) (dec_at lsk_288 (k := 41) rfl) rfl ?_
  refine u_ld (v := .ref 271) (pc := 73) (dec_at lsk_288 (k := 42) rfl) rfl ?_
  refine u_gS (o := 5) (p := 276) (pc := 74) (dec_at lsk_288 (k := 43) rfl) f_12_22 sx_271 rfl rfl ?_
  refine u_ld (v := iV l7) (pc := 77) (dec_at lsk_288 (k := 44) rfl) rfl ?_
  have g1 := h.1
  have h := h.2
  have g2 := h.1
  have h := h.2
  refine u_iald (pc := 79) (dec_at lsk_288 (k := 45) rfl) sx_276 g1 g2 ?_
  have g3 := h.1
  have h := h.2
  have g4 := h.1
  have h := h.2
  refine u_icF (pc := 80) (tgt := 272) (dec_at lsk_288 (k := 46) rfl) rfl (ci_ge g3 g4) (fun e5 => ?_) (fun e5 => ?_)
  · have h := ifT e5 h
    refine u_ld (v := .ref 271) (pc := 83) (dec_at lsk_288 (k := 47) rfl) rfl ?_
    refine u_gS (o := 6) (p := 277) (pc := 84) (dec_at lsk_288 (k := 48) rfl) f_12_25 sx_271 rfl rfl ?_
    refine u_c (x := 6) (pc := 87) (dec_at lsk_288 (k := 49) rfl) rfl (by decide) ?_
    refine u_ld (v := iV l7) (pc := 89) (dec_at lsk_288 (k := 50) rfl) rfl ?_
    refine u_imul (pc := 91) (dec_at lsk_288 (k := 51) rfl) ?_
    refine u_ld (v := iV l8) (pc := 92) (dec_at lsk_288 (k := 52) rfl) rfl ?_
    refine u_iadd (pc := 94) (dec_at lsk_288 (k := 53) rfl) ?_
    have g6 := h.1
    have h := h.2
    have g7 := h.1
    have h := h.2
    refine u_iald (pc := 95) (dec_at lsk_288 (k := 54) rfl) sx_277 g6 g7 ?_
    refine u_sto (lv' := [.ref 271, iV l1, iV l2, .retAddr 0, iV l4, iV l5, iV l6, iV l7, iV l8, iV (u.1 277 ((6 * l7) + l8)), .retAddr 0, .retAddr 0, .retAddr 0, .retAddr 0, .retAddr 0]) (pc := 96) (dec_at lsk_288 (k := 55) rfl) rfl ?_
    refine u_ld (v := iV 0) (pc := 98) (dec_at lsk_288 (k := 56) rfl) rfl ?_
    refine u_sto (lv' := [.ref 271, iV l1, iV l2, .retAddr 0, iV l4, iV l5, iV l6, iV l7, iV l8, iV (u.1 277 ((6 * l7) + l8)), iV 0, .retAddr 0, .retAddr 0, .retAddr 0, .retAddr 0]) (pc := 99) (dec_at lsk_288 (k := 57) rfl) rfl ?_
    exact h
  · have h := ifF e5 h
    refine u_inc (lv' := [.ref 271, iV l1, iV l2, .retAddr 0, iV l4, iV l5, iV l6, iV (l7 + 1), iV l8, .retAddr 0, .retAddr 0, .retAddr 0, .retAddr 0, .retAddr 0, .retAddr 0]) (pc := 272) (dec_at lsk_288 (k := 150) rfl) rfl (by decide) rfl ?_
    refine u_goto (pc := 275) (tgt := 21) (dec_at lsk_288 (k := 151) rfl) rfl ?_
    exact u_weak (sbK (sbK (sbK (sbK (sbK (sbK (sbK (sbK (sbD (sbK (sbK (sbK (sbK (sbK (sbK sb0))))))))))))))) h
theorem k_288_101 {d : Nat} {Q : Int → uS → Prop} {u : uS} {l1 l2 l4 l5 l6 l7 l8 l9 l10 : Int} (h : (0 ≤ l1) ∧ ((l1 < 100) ∧ ((rI l10) ∧ ((rI ((u.1 301 l1) * (u.1 301 l1))) ∧ (if l10 < (u.1 301 l1) * (u.1 301 l1) then ((rI l9) ∧ (if l9 < 100 then (K_288 (d + 1) 71 [.ref 271, iV l1, iV l2, .retAddr 0, iV l4, iV l5, iV l6, iV l7, iV (l8 + 1), .retAddr 0, .retAddr 0, .retAddr 0, .retAddr 0, .retAddr 0, .retAddr 0] [] u Q) else ((rI (u.1 301 l1)) ∧ (((u.1 301 l1) ≠ 0) ∧ ((0 ≤ (40 * l8) + (l10.tdiv (u.1 301 l1))) ∧ (((40 * l8) + (l10.tdiv (u.1 301 l1)) < 280) ∧ ((rL (u.1 328 ((40 * l8) + (l10.tdiv (u.1 301 l1))))) ∧ (if u.1 328 ((40 * l8) + (l10.tdiv (u.1 301 l1))) = 6000000000000000000 then (K_288 (d + 1) 222 [.ref 271, iV l1, iV l2, .retAddr 0, iV l4, iV l5, iV l6, iV l7, iV l8, iV l9, iV l10, .retAddr 0, .retAddr 0, iV ((((10 * (l10.tdiv (u.1 301 l1))) + (l9 - 100)) * 40) + (l10.tmod (u.1 301 l1))), .retAddr 0] [] u Q) else ((0 ≤ (40 * (l8 + 1)) + (l10.tmod (u.1 301 l1))) ∧ (((40 * (l8 + 1)) + (l10.tmod (u.1 301 l1)) < 280) ∧ ((rL (u.1 342 ((40 * (l8 + 1)) + (l10.tmod (u.1 301 l1))))) ∧ (if u.1 342 ((40 * (l8 + 1)) + (l10.tmod (u.1 301 l1))) = 6000000000000000000 then (K_288 (d + 1) 222 [.ref 271, iV l1, iV l2, .retAddr 0, iV l4, iV l5, iV l6, iV l7, iV l8, iV l9, iV l10, .retAddr 0, .retAddr 0, iV ((((10 * (l10.tdiv (u.1 301 l1))) + (l9 - 100)) * 40) + (l10.tmod (u.1 301 l1))), .retAddr 0] [] u Q) else ((0 ≤ (((10 * (l10.tdiv (u.1 301 l1))) + (l9 - 100)) * 40) + (l10.tmod (u.1 301 l1))) ∧ (((((10 * (l10.tdiv (u.1 301 l1))) + (l9 - 100)) * 40) + (l10.tmod (u.1 301 l1)) < 16000) ∧ ((rL (u.1 324 ((((10 * (l10.tdiv (u.1 301 l1))) + (l9 - 100)) * 40) + (l10.tmod (u.1 301 l1))))) ∧ (if u.1 324 ((((10 * (l10.tdiv (u.1 301 l1))) + (l9 - 100)) * 40) + (l10.tmod (u.1 301 l1))) = 6000000000000000000 then (K_288 (d + 1) 222 [.ref 271, iV l1, iV l2, .retAddr 0, iV l4, iV l5, iV l6, iV l7, iV l8, iV l9, iV l10, .retAddr 0, .retAddr 0, iV ((((10 * (l10.tdiv (u.1 301 l1))) + (l9 - 100)) * 40) + (l10.tmod (u.1 301 l1))), .retAddr 0] [] u Q) else ((rI (u.1 340 ((((10 * (l10.tdiv (u.1 301 l1))) + (l9 - 100)) * 40) + (l10.tmod (u.1 301 l1))))) ∧ (if u.1 340 ((((10 * (l10.tdiv (u.1 301 l1))) + (l9 - 100)) * 40) + (l10.tmod (u.1 301 l1))) = 0 then (∀ u24 : uS, u24 = wr u 340 ((((10 * (l10.tdiv (u.1 301 l1))) + (l9 - 100)) * 40) + (l10.tmod (u.1 301 l1))) 1 → ((0 ≤ l4) ∧ ((l4 < 120000) ∧ (∀ u28 : uS, u28 = wr u24 339 l4 ((((10 * (l10.tdiv (u.1 301 l1))) + (l9 - 100)) * 40) + (l10.tmod (u.1 301 l1))) → (K_288 (d + 1) 101 [.ref 271, iV l1, iV l2, .retAddr 0, iV (l4 + 1), iV l5, iV l6, iV l7, iV l8, iV l9, iV (l10 + 1), .retAddr 0, .retAddr 0, .retAddr 0, .retAddr 0] [] u28 Q))))) else (K_288 (d + 1) 101 [.ref 271, iV l1, iV l2, .retAddr 0, iV l4, iV l5, iV l6, iV l7, iV l8, iV l9, iV (l10 + 1), .retAddr 0, .retAddr 0, .retAddr 0, .retAddr 0] [] u Q))))))))))))))))))) else (K_288 (d + 1) 71 [.ref 271, iV l1, iV l2, .retAddr 0, iV l4, iV l5, iV l6, iV l7, iV (l8 + 1), .retAddr 0, .retAddr 0, .retAddr 0, .retAddr 0, .retAddr 0, .retAddr 0] [] u Q)))))) : K_288 (d + 1) 101 [.ref 271, iV l1, iV l2, .retAddr 0, iV l4, iV l5, iV l6, iV l7, iV l8, iV l9, iV l10, .retAddr 0, .retAddr 0, .retAddr 0, .retAddr 0] [] u Q := by
  unfold K_288
  refine u_ld (v := iV l10) (pc := 101) (dec_at lsk_288 (k := 58) rfl) rfl ?_
  refine u_ld (v := .ref 271) (pc := 103) (dec_at lsk_288 (k := 59) rfl) rfl ?_
  refine u_gS (o := 30) (p := 301) (pc := 104) (dec_at lsk_288 (k := 60) rfl) f_12_99 sx_271 rfl rfl ?_
  refine u_ld (v := iV l1) (pc := 107) (dec_at lsk_288 (k := 61) rfl) rfl ?_
  have g1 := h.1
  have h := h.2
  have g2 := h.1
  have h := h.2
  refine u_iald (pc := 108) (dec_at lsk_288 (k := 62) rfl) sx_301 g1 g2 ?_
  refine u_ld (v := .ref 271) (pc := 109) (dec_at lsk_288 (k := 63) rfl) rfl ?_
  refine u_gS (o := 30) (p := 301) (pc := 110) (dec_at lsk_288 (k := 64) rfl) f_12_99 sx_271 rfl rfl ?_
  refine u_ld (v := iV l1) (pc := 113) (dec_at lsk_288 (k := 65) rfl) rfl ?_
  refine u_iald (pc := 114) (dec_at lsk_288 (k := 66) rfl) sx_301 g1 g2 ?_
  refine u_imul (pc := 115) (dec_at lsk_288 (k := 67) rfl) ?_
  have g3 := h.1
  have h := h.2
  have g4 := h.1
  have h := h.2
  refine u_icF (pc := 116) (tgt := 266) (dec_at lsk_288 (k := 68) rfl) rfl (ci_ge g3 g4) (fun e5 => ?_) (fun e5 => ?_)
  · have h := ifT e5 h
    refine u_ld (v := iV l9) (pc := 119) (dec_at lsk_288 (k := 69) rfl) rfl ?_
    refine u_c (x := 100) (pc := 121) (dec_at lsk_288 (k := 70) rfl) rfl (by decide) ?_
    have g6 := h.1
    have h := h.2
    refine u_icT (pc := 123) (tgt := 266) (dec_at lsk_288 (k := 71) rfl) rfl (ci_lt g6 (by decide)) (fun e7 => ?_) (fun e7 => ?_)
    · have h := ifT e7 h
      refine u_inc (lv' := [.ref 271, iV l1, iV l2, .retAddr 0, iV l4, iV l5, iV l6, iV l7, iV (l8 + 1), iV l9, iV l10, .retAddr 0, .retAddr 0, .retAddr 0, .retAddr 0]) (pc := 266) (dec_at lsk_288 (k := 148) rfl) rfl (by decide) rfl ?_
      refine u_goto (pc := 269) (tgt := 71) (dec_at lsk_288 (k := 149) rfl) rfl ?_
      exact u_weak (sbK (sbK (sbK (sbK (sbK (sbK (sbK (sbK (sbK (sbD (sbD (sbK (sbK (sbK (sbK sb0))))))))))))))) h
    · have h := ifF e7 h
      refine u_ld (v := iV l10) (pc := 126) (dec_at lsk_288 (k := 72) rfl) rfl ?_
      refine u_ld (v := .ref 271) (pc := 128) (dec_at lsk_288 (k := 73) rfl) rfl ?_
      refine u_gS (o := 30) (p := 301) (pc := 129) (dec_at lsk_288 (k := 74) rfl) f_12_99 sx_271 rfl rfl ?_
      refine u_ld (v := iV l1) (pc := 132) (dec_at lsk_288 (k := 75) rfl) rfl ?_
      refine u_iald (pc := 133) (dec_at lsk_288 (k := 76) rfl) sx_301 g1 g2 ?_
      have g8 := h.1
      have h := h.2
      have g9 := h.1
      have h := h.2
      refine u_idiv (pc := 134) (dec_at lsk_288 (k := 77) rfl) g3 g8 g9 ?_
      refine u_sto (lv' := [.ref 271, iV l1, iV l2, .retAddr 0, iV l4, iV l5, iV l6, iV l7, iV l8, iV l9, iV l10, iV (l10.tdiv (u.1 301 l1)), .retAddr 0, .retAddr 0, .retAddr 0]) (pc := 135) (dec_at lsk_288 (k := 78) rfl) rfl ?_
      refine u_ld (v := iV l10) (pc := 137) (dec_at lsk_288 (k := 79) rfl) rfl ?_
      refine u_ld (v := .ref 271) (pc := 139) (dec_at lsk_288 (k := 80) rfl) rfl ?_
      refine u_gS (o := 30) (p := 301) (pc := 140) (dec_at lsk_288 (k := 81) rfl) f_12_99 sx_271 rfl rfl ?_
      refine u_ld (v := iV l1) (pc := 143) (dec_at lsk_288 (k := 82) rfl) rfl ?_
      refine u_iald (pc := 144) (dec_at lsk_288 (k := 83) rfl) sx_301 g1 g2 ?_
      refine u_irem (pc := 145) (dec_at lsk_288 (k := 84) rfl) g3 g8 g9 ?_
      refine u_sto (lv' := [.ref 271, iV l1, iV l2, .retAddr 0, iV l4, iV l5, iV l6, iV l7, iV l8, iV l9, iV l10, iV (l10.tdiv (u.1 301 l1)), iV (l10.tmod (u.1 301 l1)), .retAddr 0, .retAddr 0]) (pc := 146) (dec_at lsk_288 (k := 85) rfl) rfl ?_
      refine u_ld (v := iV (l10.tdiv (u.1 301 l1))) (pc := 148) (dec_at lsk_288 (k := 86) rfl) rfl ?_
      refine u_ld (v := iV l9) (pc := 150) (dec_at lsk_288 (k := 87) rfl) rfl ?_
      refine u_c (x := 100) (pc := 152) (dec_at lsk_288 (k := 88) rfl) rfl (by decide) ?_
      refine u_isub (pc := 154) (dec_at lsk_288 (k := 89) rfl) ?_
      refine u_ld (v := iV (l10.tmod (u.1 301 l1))) (pc := 155) (dec_at lsk_288 (k := 90) rfl) rfl ?_
      refine u_csI (As := [iV (l10.tdiv (u.1 301 l1)), iV (l9 - 100), iV (l10.tmod (u.1 301 l1))]) (st2 := []) (pc := 157) (dec_at lsk_288 (k := 91) rfl) m_12_494 (Or.inl rfl) rfl (Nat.le_of_ble_eq_true rfl) ?_ (fun _ _ h_ => h_)
      refine u_of me_274 (Nat.le_of_ble_eq_true rfl) ?_
      refine u_c (x := 10) (pc := 0) (dec_at lsk_274 (k := 0) rfl) rfl (by decide) ?_
      refine u_ld (v := iV (l10.tdiv (u.1 301 l1))) (pc := 2) (dec_at lsk_274 (k := 1) rfl) rfl ?_
      refine u_imul (pc := 3) (dec_at lsk_274 (k := 2) rfl) ?_
      refine u_ld (v := iV (l9 - 100)) (pc := 4) (dec_at lsk_274 (k := 3) rfl) rfl ?_
      refine u_iadd (pc := 5) (dec_at lsk_274 (k := 4) rfl) ?_
      refine u_c (x := 40) (pc := 6) (dec_at lsk_274 (k := 5) rfl) rfl (by decide) ?_
      refine u_imul (pc := 8) (dec_at lsk_274 (k := 6) rfl) ?_
      refine u_ld (v := iV (l10.tmod (u.1 301 l1))) (pc := 9) (dec_at lsk_274 (k := 7) rfl) rfl ?_
      refine u_iadd (pc := 10) (dec_at lsk_274 (k := 8) rfl) ?_
      refine u_rI (pc := 11) (dec_at lsk_274 (k := 9) rfl) rfl ?_
      refine u_sto (lv' := [.ref 271, iV l1, iV l2, .retAddr 0, iV l4, iV l5, iV l6, iV l7, iV l8, iV l9, iV l10, iV (l10.tdiv (u.1 301 l1)), iV (l10.tmod (u.1 301 l1)), iV ((((10 * (l10.tdiv (u.1 301 l1))) + (l9 - 100)) * 40) + (l10.tmod (u.1 301 l1))), .retAddr 0]) (pc := 160) (dec_at lsk_288 (k := 92) rfl) rfl ?_
      refine u_ld (v := .ref 271) (pc := 162) (dec_at lsk_288 (k := 93) rfl) rfl ?_
      refine u_gS (o := 57) (p := 328) (pc := 163) (dec_at lsk_288 (k := 94) rfl) f_12_182 sx_271 rfl rfl ?_
      refine u_c (x := 40) (pc := 166) (dec_at lsk_288 (k := 95) rfl) rfl (by decide) ?_
      refine u_ld (v := iV l8) (pc := 168) (dec_at lsk_288 (k := 96) rfl) rfl ?_
      refine u_imul (pc := 170) (dec_at lsk_288 (k := 97) rfl) ?_
      refine u_ld (v := iV (l10.tdiv (u.1 301 l1))) (pc := 171) (dec_at lsk_288 (k := 98) rfl) rfl ?_
      refine u_iadd (pc := 173) (dec_at lsk_288 (k := 99) rfl) ?_
      have g10 := h.1
      have h := h.2
      have g11 := h.1
      have h := h.2
      refine u_lald (pc := 174) (dec_at lsk_288 (k := 100) rfl) sx_328 g10 g11 ?_
      refine u_ldc2 (x := 6000000000000000000) (pc := 175) (dec_at lsk_288 (k := 101) rfl) con_12_487 (by decide) ?_
      refine u_st (st' := [.int (lg_cmp (Int64.ofInt (u.1 328 ((40 * l8) + (l10.tdiv (u.1 301 l1))))) (Int64.ofInt 6000000000000000000))]) (pc := 178) (dec_at lsk_288 (k := 102) rfl) rfl ?_
      have g12 := h.1
      have h := h.2
      refine u_ifT (pc := 179) (tgt := 222) (dec_at lsk_288 (k := 103) rfl) rfl (cl_eq g12 (by decide)) (fun e13 => ?_) (fun e13 => ?_)
      · have h := ifT e13 h
        exact u_weak (sbK (sbK (sbK (sbK (sbK (sbK (sbK (sbK (sbK (sbK (sbK (sbD (sbD (sbK (sbK sb0))))))))))))))) h
      · have h := ifF e13 h
        refine u_ld (v := .ref 271) (pc := 182) (dec_at lsk_288 (k := 104) rfl) rfl ?_
        refine u_gS (o := 71) (p := 342) (pc := 183) (dec_at lsk_288 (k := 105) rfl) f_12_226 sx_271 rfl rfl ?_
        refine u_c (x := 40) (pc := 186) (dec_at lsk_288 (k := 106) rfl) rfl (by decide) ?_
        refine u_ld (v := iV l8) (pc := 188) (dec_at lsk_288 (k := 107) rfl) rfl ?_
        refine u_ld (v := iV 1) (pc := 190) (dec_at lsk_288 (k := 108) rfl) rfl ?_
        refine u_iadd (pc := 191) (dec_at lsk_288 (k := 109) rfl) ?_
        refine u_imul (pc := 192) (dec_at lsk_288 (k := 110) rfl) ?_
        refine u_ld (v := iV (l10.tmod (u.1 301 l1))) (pc := 193) (dec_at lsk_288 (k := 111) rfl) rfl ?_
        refine u_iadd (pc := 195) (dec_at lsk_288 (k := 112) rfl) ?_
        have g14 := h.1
        have h := h.2
        have g15 := h.1
        have h := h.2
        refine u_lald (pc := 196) (dec_at lsk_288 (k := 113) rfl) sx_342 g14 g15 ?_
        refine u_ldc2 (x := 6000000000000000000) (pc := 197) (dec_at lsk_288 (k := 114) rfl) con_12_487 (by decide) ?_
        refine u_st (st' := [.int (lg_cmp (Int64.ofInt (u.1 342 ((40 * (l8 + 1)) + (l10.tmod (u.1 301 l1))))) (Int64.ofInt 6000000000000000000))]) (pc := 200) (dec_at lsk_288 (k := 115) rfl) rfl ?_
        have g16 := h.1
        have h := h.2
        refine u_ifT (pc := 201) (tgt := 222) (dec_at lsk_288 (k := 116) rfl) rfl (cl_eq g16 (by decide)) (fun e17 => ?_) (fun e17 => ?_)
        · have h := ifT e17 h
          exact u_weak (sbK (sbK (sbK (sbK (sbK (sbK (sbK (sbK (sbK (sbK (sbK (sbD (sbD (sbK (sbK sb0))))))))))))))) h
        · have h := ifF e17 h
          refine u_ld (v := .ref 271) (pc := 204) (dec_at lsk_288 (k := 117) rfl) rfl ?_
          refine u_gS (o := 53) (p := 324) (pc := 205) (dec_at lsk_288 (k := 118) rfl) f_12_169 sx_271 rfl rfl ?_
          refine u_ld (v := iV ((((10 * (l10.tdiv (u.1 301 l1))) + (l9 - 100)) * 40) + (l10.tmod (u.1 301 l1)))) (pc := 208) (dec_at lsk_288 (k := 119) rfl) rfl ?_
          have g18 := h.1
          have h := h.2
          have g19 := h.1
          have h := h.2
          refine u_lald (pc := 210) (dec_at lsk_288 (k := 120) rfl) sx_324 g18 g19 ?_
          refine u_ldc2 (x := 6000000000000000000) (pc := 211) (dec_at lsk_288 (k := 121) rfl) con_12_487 (by decide) ?_
          refine u_st (st' := [.int (lg_cmp (Int64.ofInt (u.1 324 ((((10 * (l10.tdiv (u.1 301 l1))) + (l9 - 100)) * 40) + (l10.tmod (u.1 301 l1))))) (Int64.ofInt 6000000000000000000))]) (pc := 214) (dec_at lsk_288 (k := 122) rfl) rfl ?_
          have g20 := h.1
          have h := h.2
          refine u_ifT (pc := 215) (tgt := 222) (dec_at lsk_288 (k := 123) rfl) rfl (cl_eq g20 (by decide)) (fun e21 => ?_) (fun e21 => ?_)
          · have h := ifT e21 h
            exact u_weak (sbK (sbK (sbK (sbK (sbK (sbK (sbK (sbK (sbK (sbK (sbK (sbD (sbD (sbK (sbK sb0))))))))))))))) h
          · have h := ifF e21 h
            refine u_ld (v := iV 1) (pc := 218) (dec_at lsk_288 (k := 124) rfl) rfl ?_
            refine u_goto (pc := 219) (tgt := 223) (dec_at lsk_288 (k := 125) rfl) rfl ?_
            refine u_sto (lv' := [.ref 271, iV l1, iV l2, .retAddr 0, iV l4, iV l5, iV l6, iV l7, iV l8, iV l9, iV l10, iV (l10.tdiv (u.1 301 l1)), iV (l10.tmod (u.1 301 l1)), iV ((((10 * (l10.tdiv (u.1 301 l1))) + (l9 - 100)) * 40) + (l10.tmod (u.1 301 l1))), iV 1]) (pc := 223) (dec_at lsk_288 (k := 127) rfl) rfl ?_
            refine u_ld (v := iV 1) (pc := 225) (dec_at lsk_288 (k := 128) rfl) rfl ?_
            refine u_ifT (pc := 227) (tgt := 260) (dec_at lsk_288 (k := 129) rfl) rfl (c0_eq (by decide)) (fun e => absurd e (by decide)) (fun _ => ?_)
            refine u_ld (v := .ref 271) (pc := 230) (dec_at lsk_288 (k := 130) rfl) rfl ?_
            refine u_gS (o := 69) (p := 340) (pc := 231) (dec_at lsk_288 (k := 131) rfl) f_12_220 sx_271 rfl rfl ?_
            refine u_ld (v := iV ((((10 * (l10.tdiv (u.1 301 l1))) + (l9 - 100)) * 40) + (l10.tmod (u.1 301 l1)))) (pc := 234) (dec_at lsk_288 (k := 132) rfl) rfl ?_
            refine u_zald (pc := 236) (dec_at lsk_288 (k := 133) rfl) sx_340 g18 g19 ?_
            have g22 := h.1
            have h := h.2
            refine u_ifF (pc := 237) (tgt := 260) (dec_at lsk_288 (k := 134) rfl) rfl (c0_ne g22) (fun e23 => ?_) (fun e23 => ?_)
            · have h := ifT e23 h
              refine u_ld (v := .ref 271) (pc := 240) (dec_at lsk_288 (k := 135) rfl) rfl ?_
              refine u_gS (o := 69) (p := 340) (pc := 241) (dec_at lsk_288 (k := 136) rfl) f_12_220 sx_271 rfl rfl ?_
              refine u_ld (v := iV ((((10 * (l10.tdiv (u.1 301 l1))) + (l9 - 100)) * 40) + (l10.tmod (u.1 301 l1)))) (pc := 244) (dec_at lsk_288 (k := 137) rfl) rfl ?_
              refine u_ld (v := iV 1) (pc := 246) (dec_at lsk_288 (k := 138) rfl) rfl ?_
              refine u_zast (pc := 247) (dec_at lsk_288 (k := 139) rfl) sx_340 g18 g19 (by decide) (fun u24 e25 => ?_)
              have h := h u24 e25
              refine u_ld (v := .ref 271) (pc := 248) (dec_at lsk_288 (k := 140) rfl) rfl ?_
              refine u_gS (o := 68) (p := 339) (pc := 249) (dec_at lsk_288 (k := 141) rfl) f_12_217 sx_271 rfl rfl ?_
              refine u_ld (v := iV l4) (pc := 252) (dec_at lsk_288 (k := 142) rfl) rfl ?_
              refine u_ld (v := iV ((((10 * (l10.tdiv (u.1 301 l1))) + (l9 - 100)) * 40) + (l10.tmod (u.1 301 l1)))) (pc := 254) (dec_at lsk_288 (k := 143) rfl) rfl ?_
              have g26 := h.1
              have h := h.2
              have g27 := h.1
              have h := h.2
              refine u_iast (pc := 256) (dec_at lsk_288 (k := 144) rfl) sx_339 g26 g27 (fun u28 e29 => ?_)
              have h := h u28 e29
              refine u_inc (lv' := [.ref 271, iV l1, iV l2, .retAddr 0, iV (l4 + 1), iV l5, iV l6, iV l7, iV l8, iV l9, iV l10, iV (l10.tdiv (u.1 301 l1)), iV (l10.tmod (u.1 301 l1)), iV ((((10 * (l10.tdiv (u.1 301 l1))) + (l9 - 100)) * 40) + (l10.tmod (u.1 301 l1))), iV 1]) (pc := 257) (dec_at lsk_288 (k := 145) rfl) rfl (by decide) rfl ?_
              refine u_inc (lv' := [.ref 271, iV l1, iV l2, .retAddr 0, iV (l4 + 1), iV l5, iV l6, iV l7, iV l8, iV l9, iV (l10 + 1), iV (l10.tdiv (u.1 301 l1)), iV (l10.tmod (u.1 301 l1)), iV ((((10 * (l10.tdiv (u.1 301 l1))) + (l9 - 100)) * 40) + (l10.tmod (u.1 301 l1))), iV 1]) (pc := 260) (dec_at lsk_288 (k := 146) rfl) rfl (by decide) rfl ?_
              refine u_goto (pc := 263) (tgt := 101) (dec_at lsk_288 (k := 147) rfl) rfl ?_
              exact u_weak (sbK (sbK (sbK (sbK (sbK (sbK (sbK (sbK (sbK (sbK (sbK (sbD (sbD (sbD (sbD sb0))))))))))))))) h
            · have h := ifF e23 h
              refine u_inc (lv' := [.ref 271, iV l1, iV l2, .retAddr 0, iV l4, iV l5, iV l6, iV l7, iV l8, iV l9, iV (l10 + 1), iV (l10.tdiv (u.1 301 l1)), iV (l10.tmod (u.1 301 l1)), iV ((((10 * (l10.tdiv (u.1 301 l1))) + (l9 - 100)) * 40) + (l10.tmod (u.1 301 l1))), iV 1]) (pc := 260) (dec_at lsk_288 (k := 146) rfl) rfl (by decide) rfl ?_
              refine u_goto (pc := 263) (tgt := 101) (dec_at lsk_288 (k := 147) rfl) rfl ?_
              exact u_weak (sbK (sbK (sbK (sbK (sbK (sbK (sbK (sbK (sbK (sbK (sbK (sbD (sbD (sbD (sbD sb0))))))))))))))) h
  · have h := ifF e5 h
    refine u_inc (lv' := [.ref 271, iV l1, iV l2, .retAddr 0, iV l4, iV l5, iV l6, iV l7, iV (l8 + 1), iV l9, iV l10, .retAddr 0, .retAddr 0, .retAddr 0, .retAddr 0]) (pc := 266) (dec_at lsk_288 (k := 148) rfl) rfl (by decide) rfl ?_
    refine u_goto (pc := 269) (tgt := 71) (dec_at lsk_288 (k := 149) rfl) rfl ?_
    exact u_weak (sbK (sbK (sbK (sbK (sbK (sbK (sbK (sbK (sbK (sbD (sbD (sbK (sbK (sbK (sbK sb0))))))))))))))) h
theorem k_288_222 {d : Nat} {Q : Int → uS → Prop} {u : uS} {l1 l2 l4 l5 l6 l7 l8 l9 l10 l13 : Int} (h : K_288 (d + 1) 101 [.ref 271, iV l1, iV l2, .retAddr 0, iV l4, iV l5, iV l6, iV l7, iV l8, iV l9, iV (l10 + 1), .retAddr 0, .retAddr 0, .retAddr 0, .retAddr 0] [] u Q) : K_288 (d + 1) 222 [.ref 271, iV l1, iV l2, .retAddr 0, iV l4, iV l5, iV l6, iV l7, iV l8, iV l9, iV l10, .retAddr 0, .retAddr 0, iV l13, .retAddr 0] [] u Q := by
  unfold K_288
  refine u_ld (v := iV 0) (pc := 222) (dec_at lsk_288 (k := 126) rfl) rfl ?_
  refine u_sto (lv' := [.ref 271, iV l1, iV l2, .retAddr 0, iV l4, iV l5, iV l6, iV l7, iV l8, iV l9, iV l10, .retAddr 0, .retAddr 0, iV l13, iV 0]) (pc := 223) (dec_at lsk_288 (k := 127) rfl) rfl ?_
  refine u_ld (v := iV 0) (pc := 225) (dec_at lsk_288 (k := 128) rfl) rfl ?_
  refine u_ifT (pc := 227) (tgt := 260) (dec_at lsk_288 (k := 129) rfl) rfl (c0_eq (by decide)) (fun _ => ?_) (fun e => absurd e (by decide))
  refine u_inc (lv' := [.ref 271, iV l1, iV l2, .retAddr 0, iV l4, iV l5, iV l6, iV l7, iV l8, iV l9, iV (l10 + 1), .retAddr 0, .retAddr 0, iV l13, iV 0]) (pc := 260) (dec_at lsk_288 (k := 146) rfl) rfl (by decide) rfl ?_
  refine u_goto (pc := 263) (tgt := 101) (dec_at lsk_288 (k := 147) rfl) rfl ?_
  exact u_weak (sbK (sbK (sbK (sbK (sbK (sbK (sbK (sbK (sbK (sbK (sbK (sbK (sbK (sbD (sbD sb0))))))))))))))) h
/-- method 289 -/
def K_289 (d pc : Nat) (lv : ev_L) (st : List Value) (u : uS) (Q : Int → uS → Prop) : Prop := okU d 12 11 false (some .long) prog_14_method_88_code (qL Q) pc lv st u
theorem e_289 {d : Nat} {Q : Int → uS → Prop} {u : uS} {l1 l2 l3 : Int} (h : (0 ≤ l1) ∧ ((l1 < 100) ∧ (K_289 (d + 1) 11 [.ref 271, iV l1, iV l2, iV l3, iV (u.1 301 l1), iV 0, .retAddr 0, .retAddr 0, .retAddr 0, .retAddr 0, .retAddr 0] [] u Q))) : cL (d + 2) 289 [.ref 271, iV l1, iV l2, iV l3] u Q := by
  refine u_of me_289 (Nat.le_of_ble_eq_true rfl) ?_
  refine u_ld (v := .ref 271) (pc := 0) (dec_at lsk_289 (k := 0) rfl) rfl ?_
  refine u_gS (o := 30) (p := 301) (pc := 1) (dec_at lsk_289 (k := 1) rfl) f_12_99 sx_271 rfl rfl ?_
  refine u_ld (v := iV l1) (pc := 4) (dec_at lsk_289 (k := 2) rfl) rfl ?_
  have g1 := h.1
  have h := h.2
  have g2 := h.1
  have h := h.2
  refine u_iald (pc := 5) (dec_at lsk_289 (k := 3) rfl) sx_301 g1 g2 ?_
  refine u_sto (lv' := [.ref 271, iV l1, iV l2, iV l3, iV (u.1 301 l1), .retAddr 0, .retAddr 0, .retAddr 0, .retAddr 0, .retAddr 0, .retAddr 0]) (pc := 6) (dec_at lsk_289 (k := 4) rfl) rfl ?_
  refine u_ld (v := iV 0) (pc := 8) (dec_at lsk_289 (k := 5) rfl) rfl ?_
  refine u_sto (lv' := [.ref 271, iV l1, iV l2, iV l3, iV (u.1 301 l1), iV 0, .retAddr 0, .retAddr 0, .retAddr 0, .retAddr 0, .retAddr 0]) (pc := 9) (dec_at lsk_289 (k := 6) rfl) rfl ?_
  exact h
theorem k_289_11 {d : Nat} {Q : Int → uS → Prop} {u : uS} {l1 l2 l3 l4 l5 : Int} (h : (rI l5) ∧ ((rI l4) ∧ (if l5 < l4 then ((rI l3) ∧ (if l5 = l3 then ((0 ≤ l5) ∧ ((l5 < 280) ∧ (∀ u8 : uS, u8 = wr u 345 l5 1 → (K_289 (d + 1) 11 [.ref 271, iV l1, iV l2, iV l3, iV l4, iV (l5 + 1), .retAddr 0, .retAddr 0, .retAddr 0, .retAddr 0, .retAddr 0] [] u8 Q)))) else ((0 ≤ l5) ∧ ((l5 < 280) ∧ (∀ u12 : uS, u12 = wr u 345 l5 0 → (K_289 (d + 1) 11 [.ref 271, iV l1, iV l2, iV l3, iV l4, iV (l5 + 1), .retAddr 0, .retAddr 0, .retAddr 0, .retAddr 0, .retAddr 0] [] u12 Q)))))) else (K_289 (d + 1) 45 [.ref 271, iV l1, iV l2, .retAddr 0, iV l4, iV 1, .retAddr 0, .retAddr 0, .retAddr 0, .retAddr 0, .retAddr 0] [] u Q)))) : K_289 (d + 1) 11 [.ref 271, iV l1, iV l2, iV l3, iV l4, iV l5, .retAddr 0, .retAddr 0, .retAddr 0, .retAddr 0, .retAddr 0] [] u Q := by
  unfold K_289
  refine u_ld (v := iV l5) (pc := 11) (dec_at lsk_289 (k := 7) rfl) rfl ?_
  refine u_ld (v := iV l4) (pc := 13) (dec_at lsk_289 (k := 8) rfl) rfl ?_
  have g1 := h.1
  have h := h.2
  have g2 := h.1
  have h := h.2
  refine u_icF (pc := 15) (tgt := 42) (dec_at lsk_289 (k := 9) rfl) rfl (ci_ge g1 g2) (fun e3 => ?_) (fun e3 => ?_)
  · have h := ifT e3 h
    refine u_ld (v := .ref 271) (pc := 18) (dec_at lsk_289 (k := 10) rfl) rfl ?_
    refine u_gS (o := 74) (p := 345) (pc := 19) (dec_at lsk_289 (k := 11) rfl) f_12_235 sx_271 rfl rfl ?_
    refine u_ld (v := iV l5) (pc := 22) (dec_at lsk_289 (k := 12) rfl) rfl ?_
    refine u_ld (v := iV l5) (pc := 24) (dec_at lsk_289 (k := 13) rfl) rfl ?_
    refine u_ld (v := iV l3) (pc := 26) (dec_at lsk_289 (k := 14) rfl) rfl ?_
    have g4 := h.1
    have h := h.2
    refine u_icF (pc := 27) (tgt := 34) (dec_at lsk_289 (k := 15) rfl) rfl (ci_ne g1 g4) (fun e5 => ?_) (fun e5 => ?_)
    · have h := ifT e5 h
      refine u_cl (x := 1) (pc := 30) (dec_at lsk_289 (k := 16) rfl) rfl (by decide) ?_
      refine u_goto (pc := 31) (tgt := 35) (dec_at lsk_289 (k := 17) rfl) rfl ?_
      have g6 := h.1
      have h := h.2
      have g7 := h.1
      have h := h.2
      refine u_last (pc := 35) (dec_at lsk_289 (k := 19) rfl) sx_345 g6 g7 (fun u8 e9 => ?_)
      have h := h u8 e9
      refine u_inc (lv' := [.ref 271, iV l1, iV l2, iV l3, iV l4, iV (l5 + 1), .retAddr 0, .retAddr 0, .retAddr 0, .retAddr 0, .retAddr 0]) (pc := 36) (dec_at lsk_289 (k := 20) rfl) rfl (by decide) rfl ?_
      refine u_goto (pc := 39) (tgt := 11) (dec_at lsk_289 (k := 21) rfl) rfl ?_
      exact h
    · have h := ifF e5 h
      refine u_cl (x := 0) (pc := 34) (dec_at lsk_289 (k := 18) rfl) rfl (by decide) ?_
      have g10 := h.1
      have h := h.2
      have g11 := h.1
      have h := h.2
      refine u_last (pc := 35) (dec_at lsk_289 (k := 19) rfl) sx_345 g10 g11 (fun u12 e13 => ?_)
      have h := h u12 e13
      refine u_inc (lv' := [.ref 271, iV l1, iV l2, iV l3, iV l4, iV (l5 + 1), .retAddr 0, .retAddr 0, .retAddr 0, .retAddr 0, .retAddr 0]) (pc := 36) (dec_at lsk_289 (k := 20) rfl) rfl (by decide) rfl ?_
      refine u_goto (pc := 39) (tgt := 11) (dec_at lsk_289 (k := 21) rfl) rfl ?_
      exact h
  · have h := ifF e3 h
    refine u_ld (v := iV 1) (pc := 42) (dec_at lsk_289 (k := 22) rfl) rfl ?_
    refine u_sto (lv' := [.ref 271, iV l1, iV l2, iV l3, iV l4, iV 1, .retAddr 0, .retAddr 0, .retAddr 0, .retAddr 0, .retAddr 0]) (pc := 43) (dec_at lsk_289 (k := 23) rfl) rfl ?_
    exact u_weak (sbK (sbK (sbK (sbD (sbK (sbK (sbK (sbK (sbK (sbK (sbK sb0))))))))))) h
theorem k_289_45 {d : Nat} {Q : Int → uS → Prop} {u : uS} {l1 l2 l4 l5 : Int} (h : (0 ≤ l2) ∧ ((l2 < 30) ∧ ((rI l5) ∧ ((rI (u.1 276 l2)) ∧ (if u.1 276 l2 < l5 then (K_289 (d + 1) 298 [.ref 271, .retAddr 0, iV l2, .retAddr 0, iV l4, lV 0, .retAddr 0, iV 0, .retAddr 0, .retAddr 0, .retAddr 0] [] u Q) else ((0 ≤ ((6 * l2) + l5) - 1) ∧ ((((6 * l2) + l5) - 1 < 180) ∧ (K_289 (d + 1) 75 [.ref 271, iV l1, iV l2, .retAddr 0, iV l4, iV l5, iV (u.1 277 (((6 * l2) + l5) - 1)), iV 0, .retAddr 0, .retAddr 0, .retAddr 0] [] u Q)))))))) : K_289 (d + 1) 45 [.ref 271, iV l1, iV l2, .retAddr 0, iV l4, iV l5, .retAddr 0, .retAddr 0, .retAddr 0, .retAddr 0, .retAddr 0] [] u Q := by
  unfold K_289
  refine u_ld (v := iV l5) (pc := 45) (dec_at lsk_289 (k := 24) rfl) rfl ?_
  refine u_ld (v := .ref 271) (pc := 47) (dec_at lsk_289 (k := 25) rfl) rfl ?_
  refine u_gS (o := 5) (p := 276) (pc := 48) (dec_at lsk_289 (k := 26) rfl) f_12_22 sx_271 rfl rfl ?_
  refine u_ld (v := iV l2) (pc := 51) (dec_at lsk_289 (k := 27) rfl) rfl ?_
  have g1 := h.1
  have h := h.2
  have g2 := h.1
  have h := h.2
  refine u_iald (pc := 52) (dec_at lsk_289 (k := 28) rfl) sx_276 g1 g2 ?_
  have g3 := h.1
  have h := h.2
  have g4 := h.1
  have h := h.2
  refine u_icT (pc := 53) (tgt := 292) (dec_at lsk_289 (k := 29) rfl) rfl (ci_gt g3 g4) (fun e5 => ?_) (fun e5 => ?_)
  · have h := ifT e5 h
    refine u_cl (x := 0) (pc := 292) (dec_at lsk_289 (k := 159) rfl) rfl (by decide) ?_
    refine u_sto (lv' := [.ref 271, iV l1, iV l2, .retAddr 0, iV l4, lV 0, .retAddr 0, .retAddr 0, .retAddr 0, .retAddr 0, .retAddr 0]) (pc := 293) (dec_at lsk_289 (k := 160) rfl) rfl ?_
    refine u_ld (v := iV 0) (pc := 295) (dec_at lsk_289 (k := 161) rfl) rfl ?_
    refine u_sto (lv' := [.ref 271, iV l1, iV l2, .retAddr 0, iV l4, lV 0, .retAddr 0, iV 0, .retAddr 0, .retAddr 0, .retAddr 0]) (pc := 296) (dec_at lsk_289 (k := 162) rfl) rfl ?_
    exact u_weak (sbK (sbD (sbK (sbK (sbK (sbK (sbK (sbK (sbK (sbK (sbK sb0))))))))))) h
  · have h := ifF e5 h
    refine u_ld (v := .ref 271) (pc := 56) (dec_at lsk_289 (k := 30) rfl) rfl ?_
    refine u_gS (o := 6) (p := 277) (pc := 57) (dec_at lsk_289 (k := 31) rfl) f_12_25 sx_271 rfl rfl ?_
    refine u_c (x := 6) (pc := 60) (dec_at lsk_289 (k := 32) rfl) rfl (by decide) ?_
    refine u_ld (v := iV l2) (pc := 62) (dec_at lsk_289 (k := 33) rfl) rfl ?_
    refine u_imul (pc := 63) (dec_at lsk_289 (k := 34) rfl) ?_
    refine u_ld (v := iV l5) (pc := 64) (dec_at lsk_289 (k := 35) rfl) rfl ?_
    refine u_iadd (pc := 66) (dec_at lsk_289 (k := 36) rfl) ?_
    refine u_ld (v := iV 1) (pc := 67) (dec_at lsk_289 (k := 37) rfl) rfl ?_
    refine u_isub (pc := 68) (dec_at lsk_289 (k := 38) rfl) ?_
    have g6 := h.1
    have h := h.2
    have g7 := h.1
    have h := h.2
    refine u_iald (pc := 69) (dec_at lsk_289 (k := 39) rfl) sx_277 g6 g7 ?_
    refine u_sto (lv' := [.ref 271, iV l1, iV l2, .retAddr 0, iV l4, iV l5, iV (u.1 277 (((6 * l2) + l5) - 1)), .retAddr 0, .retAddr 0, .retAddr 0, .retAddr 0]) (pc := 70) (dec_at lsk_289 (k := 40) rfl) rfl ?_
    refine u_ld (v := iV 0) (pc := 72) (dec_at lsk_289 (k := 41) rfl) rfl ?_
    refine u_sto (lv' := [.ref 271, iV l1, iV l2, .retAddr 0, iV l4, iV l5, iV (u.1 277 (((6 * l2) + l5) - 1)), iV 0, .retAddr 0, .retAddr 0, .retAddr 0]) (pc := 73) (dec_at lsk_289 (k := 42) rfl) rfl ?_
    exact h
theorem k_289_75 {d : Nat} {Q : Int → uS → Prop} {u : uS} {l1 l2 l4 l5 l6 l7 : Int} (h : (rI l7) ∧ ((rI l4) ∧ (if l7 < l4 then ((0 ≤ (40 * l5) + l7) ∧ (((40 * l5) + l7 < 280) ∧ (∀ u6 : uS, u6 = wr u 345 ((40 * l5) + l7) 0 → (K_289 (d + 1) 75 [.ref 271, iV l1, iV l2, .retAddr 0, iV l4, iV l5, iV l6, iV (l7 + 1), .retAddr 0, .retAddr 0, .retAddr 0] [] u6 Q)))) else (K_289 (d + 1) 105 [.ref 271, iV l1, iV l2, .retAddr 0, iV l4, iV l5, iV l6, iV 0, .retAddr 0, .retAddr 0, .retAddr 0] [] u Q)))) : K_289 (d + 1) 75 [.ref 271, iV l1, iV l2, .retAddr 0, iV l4, iV l5, iV l6, iV l7, .retAddr 0, .retAddr 0, .retAddr 0] [] u Q := by
  unfold K_289
  refine u_ld (v := iV l7) (pc := 75) (dec_at lsk_289 (k := 43) rfl) rfl ?_
  refine u_ld (v := iV l4) (pc := 77) (dec_at lsk_289 (k := 44) rfl) rfl ?_
  have g1 := h.1
  have h := h.2
  have g2 := h.1
  have h := h.2
  refine u_icF (pc := 79) (tgt := 102) (dec_at lsk_289 (k := 45) rfl) rfl (ci_ge g1 g2) (fun e3 => ?_) (fun e3 => ?_)
  · have h := ifT e3 h
    refine u_ld (v := .ref 271) (pc := 82) (dec_at lsk_289 (k := 46) rfl) rfl ?_
    refine u_gS (o := 74) (p := 345) (pc := 83) (dec_at lsk_289 (k := 47) rfl) f_12_235 sx_271 rfl rfl ?_
    refine u_c (x := 40) (pc := 86) (dec_at lsk_289 (k := 48) rfl) rfl (by decide) ?_
    refine u_ld (v := iV l5) (pc := 88) (dec_at lsk_289 (k := 49) rfl) rfl ?_
    refine u_imul (pc := 90) (dec_at lsk_289 (k := 50) rfl) ?_
    refine u_ld (v := iV l7) (pc := 91) (dec_at lsk_289 (k := 51) rfl) rfl ?_
    refine u_iadd (pc := 93) (dec_at lsk_289 (k := 52) rfl) ?_
    refine u_cl (x := 0) (pc := 94) (dec_at lsk_289 (k := 53) rfl) rfl (by decide) ?_
    have g4 := h.1
    have h := h.2
    have g5 := h.1
    have h := h.2
    refine u_last (pc := 95) (dec_at lsk_289 (k := 54) rfl) sx_345 g4 g5 (fun u6 e7 => ?_)
    have h := h u6 e7
    refine u_inc (lv' := [.ref 271, iV l1, iV l2, .retAddr 0, iV l4, iV l5, iV l6, iV (l7 + 1), .retAddr 0, .retAddr 0, .retAddr 0]) (pc := 96) (dec_at lsk_289 (k := 55) rfl) rfl (by decide) rfl ?_
    refine u_goto (pc := 99) (tgt := 75) (dec_at lsk_289 (k := 56) rfl) rfl ?_
    exact h
  · have h := ifF e3 h
    refine u_ld (v := iV 0) (pc := 102) (dec_at lsk_289 (k := 57) rfl) rfl ?_
    refine u_sto (lv' := [.ref 271, iV l1, iV l2, .retAddr 0, iV l4, iV l5, iV l6, iV 0, .retAddr 0, .retAddr 0, .retAddr 0]) (pc := 103) (dec_at lsk_289 (k := 58) rfl) rfl ?_
    exact h
theorem k_289_105 {d : Nat} {Q : Int → uS → Prop} {u : uS} {l1 l2 l4 l5 l6 l7 : Int} (h : (rI l7) ∧ ((rI l4) ∧ (if l7 < l4 then ((0 ≤ (40 * (l5 - 1)) + l7) ∧ (((40 * (l5 - 1)) + l7 < 280) ∧ ((rL (u.1 345 ((40 * (l5 - 1)) + l7))) ∧ (if 0 < u.1 345 ((40 * (l5 - 1)) + l7) then ((rI l6) ∧ (if l6 < 100 then ((0 ≤ ((400 * l1) + (10 * l7)) + l6) ∧ ((((400 * l1) + (10 * l7)) + l6 < 40000) ∧ ((0 ≤ (40 * l5) + (u.1 302 (((400 * l1) + (10 * l7)) + l6))) ∧ (((40 * l5) + (u.1 302 (((400 * l1) + (10 * l7)) + l6)) < 280) ∧ ((cn 5000000000000000000 (u.1 345 ((40 * l5) + (u.1 302 (((400 * l1) + (10 * l7)) + l6))))) ∧ ((cn 5000000000000000000 (u.1 345 ((40 * (l5 - 1)) + l7))) ∧ (∀ u16 : uS, u16 = wr u 345 ((40 * l5) + (u.1 302 (((400 * l1) + (10 * l7)) + l6))) (pl 5000000000000000000 (u.1 345 ((40 * l5) + (u.1 302 (((400 * l1) + (10 * l7)) + l6)))) (u.1 345 ((40 * (l5 - 1)) + l7))) → (K_289 (d + 1) 198 [.ref 271, iV l1, iV l2, .retAddr 0, iV l4, iV l5, iV l6, iV l7, lV (u.1 345 ((40 * (l5 - 1)) + l7)), .retAddr 0, iV 0] [] u16 Q)))))))) else (K_289 (d + 1) 198 [.ref 271, iV l1, iV l2, .retAddr 0, iV l4, iV l5, iV l6, iV l7, lV (u.1 345 ((40 * (l5 - 1)) + l7)), .retAddr 0, iV 0] [] u Q))) else (K_289 (d + 1) 198 [.ref 271, iV l1, iV l2, .retAddr 0, iV l4, iV l5, iV l6, iV l7, lV (u.1 345 ((40 * (l5 - 1)) + l7)), .retAddr 0, iV 0] [] u Q))))) else (K_289 (d + 1) 45 [.ref 271, iV l1, iV l2, .retAddr 0, iV l4, iV (l5 + 1), .retAddr 0, .retAddr 0, .retAddr 0, .retAddr 0, .retAddr 0] [] u Q)))) : K_289 (d + 1) 105 [.ref 271, iV l1, iV l2, .retAddr 0, iV l4, iV l5, iV l6, iV l7, .retAddr 0, .retAddr 0, .retAddr 0] [] u Q := by
  unfold K_289
  refine u_ld (v := iV l7) (pc := 105) (dec_at lsk_289 (k := 59) rfl) rfl ?_
  refine u_ld (v := iV l4) (pc := 107) (dec_at lsk_289 (k := 60) rfl) rfl ?_
  have g1 := h.1
  have h := h.2
  have g2 := h.1
  have h := h.2
  refine u_icF (pc := 109) (tgt := 286) (dec_at lsk_289 (k := 61) rfl) rfl (ci_ge g1 g2) (fun e3 => ?_) (fun e3 => ?_)
  · have h := ifT e3 h
    refine u_ld (v := .ref 271) (pc := 112) (dec_at lsk_289 (k := 62) rfl) rfl ?_
    refine u_gS (o := 74) (p := 345) (pc := 113) (dec_at lsk_289 (k := 63) rfl) f_12_235 sx_271 rfl rfl ?_
    refine u_c (x := 40) (pc := 116) (dec_at lsk_289 (k := 64) rfl) rfl (by decide) ?_
    refine u_ld (v := iV l5) (pc := 118) (dec_at lsk_289 (k := 65) rfl) rfl ?_
    refine u_ld (v := iV 1) (pc := 120) (dec_at lsk_289 (k := 66) rfl) rfl ?_
    refine u_isub (pc := 121) (dec_at lsk_289 (k := 67) rfl) ?_
    refine u_imul (pc := 122) (dec_at lsk_289 (k := 68) rfl) ?_
    refine u_ld (v := iV l7) (pc := 123) (dec_at lsk_289 (k := 69) rfl) rfl ?_
    refine u_iadd (pc := 125) (dec_at lsk_289 (k := 70) rfl) ?_
    have g4 := h.1
    have h := h.2
    have g5 := h.1
    have h := h.2
    refine u_lald (pc := 126) (dec_at lsk_289 (k := 71) rfl) sx_345 g4 g5 ?_
    refine u_sto (lv' := [.ref 271, iV l1, iV l2, .retAddr 0, iV l4, iV l5, iV l6, iV l7, lV (u.1 345 ((40 * (l5 - 1)) + l7)), .retAddr 0, .retAddr 0]) (pc := 127) (dec_at lsk_289 (k := 72) rfl) rfl ?_
    refine u_ld (v := lV (u.1 345 ((40 * (l5 - 1)) + l7))) (pc := 129) (dec_at lsk_289 (k := 73) rfl) rfl ?_
    refine u_cl (x := 0) (pc := 131) (dec_at lsk_289 (k := 74) rfl) rfl (by decide) ?_
    refine u_st (st' := [.int (lg_cmp (Int64.ofInt (u.1 345 ((40 * (l5 - 1)) + l7))) (Int64.ofInt 0))]) (pc := 132) (dec_at lsk_289 (k := 75) rfl) rfl ?_
    have g6 := h.1
    have h := h.2
    refine u_ifF (pc := 133) (tgt := 195) (dec_at lsk_289 (k := 76) rfl) rfl (cl_le g6 (by decide)) (fun e7 => ?_) (fun e7 => ?_)
    · have h := ifT e7 h
      refine u_ld (v := iV l6) (pc := 136) (dec_at lsk_289 (k := 77) rfl) rfl ?_
      refine u_c (x := 100) (pc := 138) (dec_at lsk_289 (k := 78) rfl) rfl (by decide) ?_
      have g8 := h.1
      have h := h.2
      refine u_icF (pc := 140) (tgt := 195) (dec_at lsk_289 (k := 79) rfl) rfl (ci_ge g8 (by decide)) (fun e9 => ?_) (fun e9 => ?_)
      · have h := ifT e9 h
        refine u_ld (v := .ref 271) (pc := 143) (dec_at lsk_289 (k := 80) rfl) rfl ?_
        refine u_gS (o := 31) (p := 302) (pc := 144) (dec_at lsk_289 (k := 81) rfl) f_12_103 sx_271 rfl rfl ?_
        refine u_c (x := 400) (pc := 147) (dec_at lsk_289 (k := 82) rfl) rfl (by decide) ?_
        refine u_ld (v := iV l1) (pc := 150) (dec_at lsk_289 (k := 83) rfl) rfl ?_
        refine u_imul (pc := 151) (dec_at lsk_289 (k := 84) rfl) ?_
        refine u_c (x := 10) (pc := 152) (dec_at lsk_289 (k := 85) rfl) rfl (by decide) ?_
        refine u_ld (v := iV l7) (pc := 154) (dec_at lsk_289 (k := 86) rfl) rfl ?_
        refine u_imul (pc := 156) (dec_at lsk_289 (k := 87) rfl) ?_
        refine u_iadd (pc := 157) (dec_at lsk_289 (k := 88) rfl) ?_
        refine u_ld (v := iV l6) (pc := 158) (dec_at lsk_289 (k := 89) rfl) rfl ?_
        refine u_iadd (pc := 160) (dec_at lsk_289 (k := 90) rfl) ?_
        have g10 := h.1
        have h := h.2
        have g11 := h.1
        have h := h.2
        refine u_iald (pc := 161) (dec_at lsk_289 (k := 91) rfl) sx_302 g10 g11 ?_
        refine u_sto (lv' := [.ref 271, iV l1, iV l2, .retAddr 0, iV l4, iV l5, iV l6, iV l7, lV (u.1 345 ((40 * (l5 - 1)) + l7)), .retAddr 0, iV (u.1 302 (((400 * l1) + (10 * l7)) + l6))]) (pc := 162) (dec_at lsk_289 (k := 92) rfl) rfl ?_
        refine u_ld (v := .ref 271) (pc := 164) (dec_at lsk_289 (k := 93) rfl) rfl ?_
        refine u_gS (o := 74) (p := 345) (pc := 165) (dec_at lsk_289 (k := 94) rfl) f_12_235 sx_271 rfl rfl ?_
        refine u_c (x := 40) (pc := 168) (dec_at lsk_289 (k := 95) rfl) rfl (by decide) ?_
        refine u_ld (v := iV l5) (pc := 170) (dec_at lsk_289 (k := 96) rfl) rfl ?_
        refine u_imul (pc := 172) (dec_at lsk_289 (k := 97) rfl) ?_
        refine u_ld (v := iV (u.1 302 (((400 * l1) + (10 * l7)) + l6))) (pc := 173) (dec_at lsk_289 (k := 98) rfl) rfl ?_
        refine u_iadd (pc := 175) (dec_at lsk_289 (k := 99) rfl) ?_
        refine u_ld (v := .ref 271) (pc := 176) (dec_at lsk_289 (k := 100) rfl) rfl ?_
        refine u_gS (o := 74) (p := 345) (pc := 177) (dec_at lsk_289 (k := 101) rfl) f_12_235 sx_271 rfl rfl ?_
        refine u_c (x := 40) (pc := 180) (dec_at lsk_289 (k := 102) rfl) rfl (by decide) ?_
        refine u_ld (v := iV l5) (pc := 182) (dec_at lsk_289 (k := 103) rfl) rfl ?_
        refine u_imul (pc := 184) (dec_at lsk_289 (k := 104) rfl) ?_
        refine u_ld (v := iV (u.1 302 (((400 * l1) + (10 * l7)) + l6))) (pc := 185) (dec_at lsk_289 (k := 105) rfl) rfl ?_
        refine u_iadd (pc := 187) (dec_at lsk_289 (k := 106) rfl) ?_
        have g12 := h.1
        have h := h.2
        have g13 := h.1
        have h := h.2
        refine u_lald (pc := 188) (dec_at lsk_289 (k := 107) rfl) sx_345 g12 g13 ?_
        refine u_ld (v := lV (u.1 345 ((40 * (l5 - 1)) + l7))) (pc := 189) (dec_at lsk_289 (k := 108) rfl) rfl ?_
        have g14 := h.1
        have h := h.2
        have g15 := h.1
        have h := h.2
        refine u_csL (As := [lV (u.1 345 ((40 * l5) + (u.1 302 (((400 * l1) + (10 * l7)) + l6)))), lV (u.1 345 ((40 * (l5 - 1)) + l7))]) (st2 := [iV ((40 * l5) + (u.1 302 (((400 * l1) + (10 * l7)) + l6))), .ref 345]) (pc := 191) (dec_at lsk_289 (k := 109) rfl) m_12_323 (Or.inl rfl) rfl (Nat.le_of_ble_eq_true rfl) (p_217 g14 g15) (fun r_ u_ h_ => ?_)
        rw [h_.1, h_.2]
        refine u_last (pc := 194) (dec_at lsk_289 (k := 110) rfl) sx_345 g12 g13 (fun u16 e17 => ?_)
        have h := h u16 e17
        refine u_ld (v := iV 0) (pc := 195) (dec_at lsk_289 (k := 111) rfl) rfl ?_
        refine u_sto (lv' := [.ref 271, iV l1, iV l2, .retAddr 0, iV l4, iV l5, iV l6, iV l7, lV (u.1 345 ((40 * (l5 - 1)) + l7)), .retAddr 0, iV 0]) (pc := 196) (dec_at lsk_289 (k := 112) rfl) rfl ?_
        exact h
      · have h := ifF e9 h
        refine u_ld (v := iV 0) (pc := 195) (dec_at lsk_289 (k := 111) rfl) rfl ?_
        refine u_sto (lv' := [.ref 271, iV l1, iV l2, .retAddr 0, iV l4, iV l5, iV l6, iV l7, lV (u.1 345 ((40 * (l5 - 1)) + l7)), .retAddr 0, iV 0]) (pc := 196) (dec_at lsk_289 (k := 112) rfl) rfl ?_
        exact h
    · have h := ifF e7 h
      refine u_ld (v := iV 0) (pc := 195) (dec_at lsk_289 (k := 111) rfl) rfl ?_
      refine u_sto (lv' := [.ref 271, iV l1, iV l2, .retAddr 0, iV l4, iV l5, iV l6, iV l7, lV (u.1 345 ((40 * (l5 - 1)) + l7)), .retAddr 0, iV 0]) (pc := 196) (dec_at lsk_289 (k := 112) rfl) rfl ?_
      exact h
  · have h := ifF e3 h
    refine u_inc (lv' := [.ref 271, iV l1, iV l2, .retAddr 0, iV l4, iV (l5 + 1), iV l6, iV l7, .retAddr 0, .retAddr 0, .retAddr 0]) (pc := 286) (dec_at lsk_289 (k := 157) rfl) rfl (by decide) rfl ?_
    refine u_goto (pc := 289) (tgt := 45) (dec_at lsk_289 (k := 158) rfl) rfl ?_
    exact u_weak (sbK (sbK (sbK (sbK (sbK (sbK (sbD (sbD (sbK (sbK (sbK sb0))))))))))) h
theorem k_289_198 {d : Nat} {Q : Int → uS → Prop} {u : uS} {l1 l2 l4 l5 l6 l7 l8 l10 : Int} (h : (rI l10) ∧ ((rI l4) ∧ (if l10 < l4 then ((rL l8) ∧ (if 0 < l8 then ((rI l6) ∧ (if l6 < 100 then (K_289 (d + 1) 105 [.ref 271, iV l1, iV l2, .retAddr 0, iV l4, iV l5, iV l6, iV (l7 + 1), .retAddr 0, .retAddr 0, .retAddr 0] [] u Q) else ((0 ≤ (((10 * l7) + (l6 - 100)) * 40) + l10) ∧ (((((10 * l7) + (l6 - 100)) * 40) + l10 < 16000) ∧ ((rL (u.1 324 ((((10 * l7) + (l6 - 100)) * 40) + l10))) ∧ (if u.1 324 ((((10 * l7) + (l6 - 100)) * 40) + l10) = 6000000000000000000 then (K_289 (d + 1) 198 [.ref 271, iV l1, iV l2, .retAddr 0, iV l4, iV l5, iV l6, iV l7, lV l8, .retAddr 0, iV (l10 + 1)] [] u Q) else ((0 ≤ (40 * l5) + l10) ∧ (((40 * l5) + l10 < 280) ∧ ((cn 5000000000000000000 (u.1 345 ((40 * l5) + l10))) ∧ ((cn 5000000000000000000 l8) ∧ (∀ u16 : uS, u16 = wr u 345 ((40 * l5) + l10) (pl 5000000000000000000 (u.1 345 ((40 * l5) + l10)) l8) → (K_289 (d + 1) 198 [.ref 271, iV l1, iV l2, .retAddr 0, iV l4, iV l5, iV l6, iV l7, lV l8, .retAddr 0, iV (l10 + 1)] [] u16 Q)))))))))))) else (K_289 (d + 1) 105 [.ref 271, iV l1, iV l2, .retAddr 0, iV l4, iV l5, iV l6, iV (l7 + 1), .retAddr 0, .retAddr 0, .retAddr 0] [] u Q))) else (K_289 (d + 1) 105 [.ref 271, iV l1, iV l2, .retAddr 0, iV l4, iV l5, iV l6, iV (l7 + 1), .retAddr 0, .retAddr 0, .retAddr 0] [] u Q)))) : K_289 (d + 1) 198 [.ref 271, iV l1, iV l2, .retAddr 0, iV l4, iV l5, iV l6, iV l7, lV l8, .retAddr 0, iV l10] [] u Q := by
  unfold K_289
  refine u_ld (v := iV l10) (pc := 198) (dec_at lsk_289 (k := 113) rfl) rfl ?_
  refine u_ld (v := iV l4) (pc := 200) (dec_at lsk_289 (k := 114) rfl) rfl ?_
  have g1 := h.1
  have h := h.2
  have g2 := h.1
  have h := h.2
  refine u_icF (pc := 202) (tgt := 280) (dec_at lsk_289 (k := 115) rfl) rfl (ci_ge g1 g2) (fun e3 => ?_) (fun e3 => ?_)
  · have h := ifT e3 h
    refine u_ld (v := lV l8) (pc := 205) (dec_at lsk_289 (k := 116) rfl) rfl ?_
    refine u_cl (x := 0) (pc := 207) (dec_at lsk_289 (k := 117) rfl) rfl (by decide) ?_
    refine u_st (st' := [.int (lg_cmp (Int64.ofInt l8) (Int64.ofInt 0))]) (pc := 208) (dec_at lsk_289 (k := 118) rfl) rfl ?_
    have g4 := h.1
    have h := h.2
    refine u_ifF (pc := 209) (tgt := 280) (dec_at lsk_289 (k := 119) rfl) rfl (cl_le g4 (by decide)) (fun e5 => ?_) (fun e5 => ?_)
    · have h := ifT e5 h
      refine u_ld (v := iV l6) (pc := 212) (dec_at lsk_289 (k := 120) rfl) rfl ?_
      refine u_c (x := 100) (pc := 214) (dec_at lsk_289 (k := 121) rfl) rfl (by decide) ?_
      have g6 := h.1
      have h := h.2
      refine u_icT (pc := 216) (tgt := 280) (dec_at lsk_289 (k := 122) rfl) rfl (ci_lt g6 (by decide)) (fun e7 => ?_) (fun e7 => ?_)
      · have h := ifT e7 h
        refine u_inc (lv' := [.ref 271, iV l1, iV l2, .retAddr 0, iV l4, iV l5, iV l6, iV (l7 + 1), lV l8, .retAddr 0, iV l10]) (pc := 280) (dec_at lsk_289 (k := 155) rfl) rfl (by decide) rfl ?_
        refine u_goto (pc := 283) (tgt := 105) (dec_at lsk_289 (k := 156) rfl) rfl ?_
        exact u_weak (sbK (sbK (sbK (sbK (sbK (sbK (sbK (sbK (sbD (sbK (sbD sb0))))))))))) h
      · have h := ifF e7 h
        refine u_ld (v := .ref 271) (pc := 219) (dec_at lsk_289 (k := 123) rfl) rfl ?_
        refine u_gS (o := 53) (p := 324) (pc := 220) (dec_at lsk_289 (k := 124) rfl) f_12_169 sx_271 rfl rfl ?_
        refine u_ld (v := iV l7) (pc := 223) (dec_at lsk_289 (k := 125) rfl) rfl ?_
        refine u_ld (v := iV l6) (pc := 225) (dec_at lsk_289 (k := 126) rfl) rfl ?_
        refine u_c (x := 100) (pc := 227) (dec_at lsk_289 (k := 127) rfl) rfl (by decide) ?_
        refine u_isub (pc := 229) (dec_at lsk_289 (k := 128) rfl) ?_
        refine u_ld (v := iV l10) (pc := 230) (dec_at lsk_289 (k := 129) rfl) rfl ?_
        refine u_csI (As := [iV l7, iV (l6 - 100), iV l10]) (st2 := [.ref 324]) (pc := 232) (dec_at lsk_289 (k := 130) rfl) m_12_494 (Or.inl rfl) rfl (Nat.le_of_ble_eq_true rfl) ?_ (fun _ _ h_ => h_)
        refine u_of me_274 (Nat.le_of_ble_eq_true rfl) ?_
        refine u_c (x := 10) (pc := 0) (dec_at lsk_274 (k := 0) rfl) rfl (by decide) ?_
        refine u_ld (v := iV l7) (pc := 2) (dec_at lsk_274 (k := 1) rfl) rfl ?_
        refine u_imul (pc := 3) (dec_at lsk_274 (k := 2) rfl) ?_
        refine u_ld (v := iV (l6 - 100)) (pc := 4) (dec_at lsk_274 (k := 3) rfl) rfl ?_
        refine u_iadd (pc := 5) (dec_at lsk_274 (k := 4) rfl) ?_
        refine u_c (x := 40) (pc := 6) (dec_at lsk_274 (k := 5) rfl) rfl (by decide) ?_
        refine u_imul (pc := 8) (dec_at lsk_274 (k := 6) rfl) ?_
        refine u_ld (v := iV l10) (pc := 9) (dec_at lsk_274 (k := 7) rfl) rfl ?_
        refine u_iadd (pc := 10) (dec_at lsk_274 (k := 8) rfl) ?_
        refine u_rI (pc := 11) (dec_at lsk_274 (k := 9) rfl) rfl ?_
        have g8 := h.1
        have h := h.2
        have g9 := h.1
        have h := h.2
        refine u_lald (pc := 235) (dec_at lsk_289 (k := 131) rfl) sx_324 g8 g9 ?_
        refine u_ldc2 (x := 6000000000000000000) (pc := 236) (dec_at lsk_289 (k := 132) rfl) con_12_487 (by decide) ?_
        refine u_st (st' := [.int (lg_cmp (Int64.ofInt (u.1 324 ((((10 * l7) + (l6 - 100)) * 40) + l10))) (Int64.ofInt 6000000000000000000))]) (pc := 239) (dec_at lsk_289 (k := 133) rfl) rfl ?_
        have g10 := h.1
        have h := h.2
        refine u_ifT (pc := 240) (tgt := 274) (dec_at lsk_289 (k := 134) rfl) rfl (cl_eq g10 (by decide)) (fun e11 => ?_) (fun e11 => ?_)
        · have h := ifT e11 h
          refine u_inc (lv' := [.ref 271, iV l1, iV l2, .retAddr 0, iV l4, iV l5, iV l6, iV l7, lV l8, .retAddr 0, iV (l10 + 1)]) (pc := 274) (dec_at lsk_289 (k := 153) rfl) rfl (by decide) rfl ?_
          refine u_goto (pc := 277) (tgt := 198) (dec_at lsk_289 (k := 154) rfl) rfl ?_
          exact h
        · have h := ifF e11 h
          refine u_ld (v := .ref 271) (pc := 243) (dec_at lsk_289 (k := 135) rfl) rfl ?_
          refine u_gS (o := 74) (p := 345) (pc := 244) (dec_at lsk_289 (k := 136) rfl) f_12_235 sx_271 rfl rfl ?_
          refine u_c (x := 40) (pc := 247) (dec_at lsk_289 (k := 137) rfl) rfl (by decide) ?_
          refine u_ld (v := iV l5) (pc := 249) (dec_at lsk_289 (k := 138) rfl) rfl ?_
          refine u_imul (pc := 251) (dec_at lsk_289 (k := 139) rfl) ?_
          refine u_ld (v := iV l10) (pc := 252) (dec_at lsk_289 (k := 140) rfl) rfl ?_
          refine u_iadd (pc := 254) (dec_at lsk_289 (k := 141) rfl) ?_
          refine u_ld (v := .ref 271) (pc := 255) (dec_at lsk_289 (k := 142) rfl) rfl ?_
          refine u_gS (o := 74) (p := 345) (pc := 256) (dec_at lsk_289 (k := 143) rfl) f_12_235 sx_271 rfl rfl ?_
          refine u_c (x := 40) (pc := 259) (dec_at lsk_289 (k := 144) rfl) rfl (by decide) ?_
          refine u_ld (v := iV l5) (pc := 261) (dec_at lsk_289 (k := 145) rfl) rfl ?_
          refine u_imul (pc := 263) (dec_at lsk_289 (k := 146) rfl) ?_
          refine u_ld (v := iV l10) (pc := 264) (dec_at lsk_289 (k := 147) rfl) rfl ?_
          refine u_iadd (pc := 266) (dec_at lsk_289 (k := 148) rfl) ?_
          have g12 := h.1
          have h := h.2
          have g13 := h.1
          have h := h.2
          refine u_lald (pc := 267) (dec_at lsk_289 (k := 149) rfl) sx_345 g12 g13 ?_
          refine u_ld (v := lV l8) (pc := 268) (dec_at lsk_289 (k := 150) rfl) rfl ?_
          have g14 := h.1
          have h := h.2
          have g15 := h.1
          have h := h.2
          refine u_csL (As := [lV (u.1 345 ((40 * l5) + l10)), lV l8]) (st2 := [iV ((40 * l5) + l10), .ref 345]) (pc := 270) (dec_at lsk_289 (k := 151) rfl) m_12_323 (Or.inl rfl) rfl (Nat.le_of_ble_eq_true rfl) (p_217 g14 g15) (fun r_ u_ h_ => ?_)
          rw [h_.1, h_.2]
          refine u_last (pc := 273) (dec_at lsk_289 (k := 152) rfl) sx_345 g12 g13 (fun u16 e17 => ?_)
          have h := h u16 e17
          refine u_inc (lv' := [.ref 271, iV l1, iV l2, .retAddr 0, iV l4, iV l5, iV l6, iV l7, lV l8, .retAddr 0, iV (l10 + 1)]) (pc := 274) (dec_at lsk_289 (k := 153) rfl) rfl (by decide) rfl ?_
          refine u_goto (pc := 277) (tgt := 198) (dec_at lsk_289 (k := 154) rfl) rfl ?_
          exact h
    · have h := ifF e5 h
      refine u_inc (lv' := [.ref 271, iV l1, iV l2, .retAddr 0, iV l4, iV l5, iV l6, iV (l7 + 1), lV l8, .retAddr 0, iV l10]) (pc := 280) (dec_at lsk_289 (k := 155) rfl) rfl (by decide) rfl ?_
      refine u_goto (pc := 283) (tgt := 105) (dec_at lsk_289 (k := 156) rfl) rfl ?_
      exact u_weak (sbK (sbK (sbK (sbK (sbK (sbK (sbK (sbK (sbD (sbK (sbD sb0))))))))))) h
  · have h := ifF e3 h
    refine u_inc (lv' := [.ref 271, iV l1, iV l2, .retAddr 0, iV l4, iV l5, iV l6, iV (l7 + 1), lV l8, .retAddr 0, iV l10]) (pc := 280) (dec_at lsk_289 (k := 155) rfl) rfl (by decide) rfl ?_
    refine u_goto (pc := 283) (tgt := 105) (dec_at lsk_289 (k := 156) rfl) rfl ?_
    exact u_weak (sbK (sbK (sbK (sbK (sbK (sbK (sbK (sbK (sbD (sbK (sbD sb0))))))))))) h
theorem k_289_298 {d : Nat} {Q : Int → uS → Prop} {u : uS} {l2 l4 l5 l7 : Int} (h : (rI l7) ∧ ((rI l4) ∧ (if l7 < l4 then ((0 ≤ l2) ∧ ((l2 < 30) ∧ ((0 ≤ (40 * (u.1 276 l2)) + l7) ∧ (((40 * (u.1 276 l2)) + l7 < 280) ∧ ((cn 5000000000000000000 l5) ∧ ((cn 5000000000000000000 (u.1 345 ((40 * (u.1 276 l2)) + l7))) ∧ (K_289 (d + 1) 298 [.ref 271, .retAddr 0, iV l2, .retAddr 0, iV l4, lV (pl 5000000000000000000 l5 (u.1 345 ((40 * (u.1 276 l2)) + l7))), .retAddr 0, iV (l7 + 1), .retAddr 0, .retAddr 0, .retAddr 0] [] u Q))))))) else (Q l5 u)))) : K_289 (d + 1) 298 [.ref 271, .retAddr 0, iV l2, .retAddr 0, iV l4, lV l5, .retAddr 0, iV l7, .retAddr 0, .retAddr 0, .retAddr 0] [] u Q := by
  unfold K_289
  refine u_ld (v := iV l7) (pc := 298) (dec_at lsk_289 (k := 163) rfl) rfl ?_
  refine u_ld (v := iV l4) (pc := 300) (dec_at lsk_289 (k := 164) rfl) rfl ?_
  have g1 := h.1
  have h := h.2
  have g2 := h.1
  have h := h.2
  refine u_icF (pc := 302) (tgt := 335) (dec_at lsk_289 (k := 165) rfl) rfl (ci_ge g1 g2) (fun e3 => ?_) (fun e3 => ?_)
  · have h := ifT e3 h
    refine u_ld (v := lV l5) (pc := 305) (dec_at lsk_289 (k := 166) rfl) rfl ?_
    refine u_ld (v := .ref 271) (pc := 307) (dec_at lsk_289 (k := 167) rfl) rfl ?_
    refine u_gS (o := 74) (p := 345) (pc := 308) (dec_at lsk_289 (k := 168) rfl) f_12_235 sx_271 rfl rfl ?_
    refine u_c (x := 40) (pc := 311) (dec_at lsk_289 (k := 169) rfl) rfl (by decide) ?_
    refine u_ld (v := .ref 271) (pc := 313) (dec_at lsk_289 (k := 170) rfl) rfl ?_
    refine u_gS (o := 5) (p := 276) (pc := 314) (dec_at lsk_289 (k := 171) rfl) f_12_22 sx_271 rfl rfl ?_
    refine u_ld (v := iV l2) (pc := 317) (dec_at lsk_289 (k := 172) rfl) rfl ?_
    have g4 := h.1
    have h := h.2
    have g5 := h.1
    have h := h.2
    refine u_iald (pc := 318) (dec_at lsk_289 (k := 173) rfl) sx_276 g4 g5 ?_
    refine u_imul (pc := 319) (dec_at lsk_289 (k := 174) rfl) ?_
    refine u_ld (v := iV l7) (pc := 320) (dec_at lsk_289 (k := 175) rfl) rfl ?_
    refine u_iadd (pc := 322) (dec_at lsk_289 (k := 176) rfl) ?_
    have g6 := h.1
    have h := h.2
    have g7 := h.1
    have h := h.2
    refine u_lald (pc := 323) (dec_at lsk_289 (k := 177) rfl) sx_345 g6 g7 ?_
    have g8 := h.1
    have h := h.2
    have g9 := h.1
    have h := h.2
    refine u_csL (As := [lV l5, lV (u.1 345 ((40 * (u.1 276 l2)) + l7))]) (st2 := []) (pc := 324) (dec_at lsk_289 (k := 178) rfl) m_12_323 (Or.inl rfl) rfl (Nat.le_of_ble_eq_true rfl) (p_217 g8 g9) (fun r_ u_ h_ => ?_)
    rw [h_.1, h_.2]
    refine u_sto (lv' := [.ref 271, .retAddr 0, iV l2, .retAddr 0, iV l4, lV (pl 5000000000000000000 l5 (u.1 345 ((40 * (u.1 276 l2)) + l7))), .retAddr 0, iV l7, .retAddr 0, .retAddr 0, .retAddr 0]) (pc := 327) (dec_at lsk_289 (k := 179) rfl) rfl ?_
    refine u_inc (lv' := [.ref 271, .retAddr 0, iV l2, .retAddr 0, iV l4, lV (pl 5000000000000000000 l5 (u.1 345 ((40 * (u.1 276 l2)) + l7))), .retAddr 0, iV (l7 + 1), .retAddr 0, .retAddr 0, .retAddr 0]) (pc := 329) (dec_at lsk_289 (k := 180) rfl) rfl (by decide) rfl ?_
    refine u_goto (pc := 332) (tgt := 298) (dec_at lsk_289 (k := 181) rfl) rfl ?_
    exact h
  · have h := ifF e3 h
    refine u_ld (v := lV l5) (pc := 335) (dec_at lsk_289 (k := 182) rfl) rfl ?_
    exact u_rL (pc := 337) (dec_at lsk_289 (k := 183) rfl) rfl h
/-- method 290 -/
def K_290 (d pc : Nat) (lv : ev_L) (st : List Value) (u : uS) (Q : Int → uS → Prop) : Prop := okU d 12 4 false (some .int) prog_14_method_92_code (qI Q) pc lv st u
theorem e_290 {d : Nat} {Q : Int → uS → Prop} {u : uS} {l1 l2 : Int} (h : (rI (u.1 271 11)) ∧ (if u.1 271 11 = 0 then (Q (-1) u) else ((rI l1) ∧ (if l1 < 0 then (Q (-1) u) else (if 1 < l1 then (Q (-1) u) else ((rI l2) ∧ (if l2 < 0 then (Q (-1) u) else (if 1 < l2 then (Q (-1) u) else (cV (d + 1) 269 [.ref 271, iV l1] u (fun u9 => K_290 (d + 1) 36 [.ref 271, iV l1, iV l2, iV 0] [] u9 Q)))))))))) : cI (d + 2) 290 [.ref 271, iV l1, iV l2] u Q := by
  refine u_of me_290 (Nat.le_of_ble_eq_true rfl) ?_
  refine u_ld (v := .ref 271) (pc := 0) (dec_at lsk_290 (k := 0) rfl) rfl ?_
  refine u_gZ (z := 11) (pc := 1) (dec_at lsk_290 (k := 1) rfl) f_12_299 sx_271 rfl rfl ?_
  have g1 := h.1
  have h := h.2
  refine u_ifT (pc := 4) (tgt := 27) (dec_at lsk_290 (k := 2) rfl) rfl (c0_eq g1) (fun e2 => ?_) (fun e2 => ?_)
  · have h := ifT e2 h
    refine u_ld (v := iV (-1)) (pc := 27) (dec_at lsk_290 (k := 15) rfl) rfl ?_
    exact u_rI (pc := 28) (dec_at lsk_290 (k := 16) rfl) rfl h
  · have h := ifF e2 h
    refine u_ld (v := iV l1) (pc := 7) (dec_at lsk_290 (k := 3) rfl) rfl ?_
    have g3 := h.1
    have h := h.2
    refine u_i2l (pc := 8) (dec_at lsk_290 (k := 4) rfl) g3 ?_
    refine u_cl (x := 0) (pc := 9) (dec_at lsk_290 (k := 5) rfl) rfl (by decide) ?_
    refine u_cl (x := 1) (pc := 10) (dec_at lsk_290 (k := 6) rfl) rfl (by decide) ?_
    refine u_csI (As := [lV l1, lV 0, lV 1]) (st2 := []) (pc := 11) (dec_at lsk_290 (k := 7) rfl) m_12_250 (Or.inl rfl) rfl (Nat.le_of_ble_eq_true rfl) ?_ (fun _ _ h_ => h_)
    refine u_of me_203 (Nat.le_of_ble_eq_true rfl) ?_
    refine u_ld (v := lV l1) (pc := 0) (dec_at lsk_203 (k := 0) rfl) rfl ?_
    refine u_ld (v := lV 0) (pc := 1) (dec_at lsk_203 (k := 1) rfl) rfl ?_
    refine u_st (st' := [.int (lg_cmp (Int64.ofInt l1) (Int64.ofInt 0))]) (pc := 2) (dec_at lsk_203 (k := 2) rfl) rfl ?_
    refine u_ifT (pc := 3) (tgt := 17) (dec_at lsk_203 (k := 3) rfl) rfl (cl_lt (rl_ri g3) (by decide)) (fun e4 => ?_) (fun e4 => ?_)
    · have h := ifT e4 h
      refine u_ld (v := iV 0) (pc := 17) (dec_at lsk_203 (k := 10) rfl) rfl ?_
      refine u_rZ (pc := 18) (dec_at lsk_203 (k := 11) rfl) rfl (by decide) ?_
      refine u_ifT (pc := 14) (tgt := 27) (dec_at lsk_290 (k := 8) rfl) rfl (c0_eq (by decide)) (fun _ => ?_) (fun e => absurd e (by decide))
      refine u_ld (v := iV (-1)) (pc := 27) (dec_at lsk_290 (k := 15) rfl) rfl ?_
      exact u_rI (pc := 28) (dec_at lsk_290 (k := 16) rfl) rfl h
    · have h := ifF e4 h
      refine u_ld (v := lV l1) (pc := 6) (dec_at lsk_203 (k := 4) rfl) rfl ?_
      refine u_ld (v := lV 1) (pc := 7) (dec_at lsk_203 (k := 5) rfl) rfl ?_
      refine u_st (st' := [.int (lg_cmp (Int64.ofInt l1) (Int64.ofInt 1))]) (pc := 9) (dec_at lsk_203 (k := 6) rfl) rfl ?_
      refine u_ifT (pc := 10) (tgt := 17) (dec_at lsk_203 (k := 7) rfl) rfl (cl_gt (rl_ri g3) (by decide)) (fun e5 => ?_) (fun e5 => ?_)
      · have h := ifT e5 h
        refine u_ld (v := iV 0) (pc := 17) (dec_at lsk_203 (k := 10) rfl) rfl ?_
        refine u_rZ (pc := 18) (dec_at lsk_203 (k := 11) rfl) rfl (by decide) ?_
        refine u_ifT (pc := 14) (tgt := 27) (dec_at lsk_290 (k := 8) rfl) rfl (c0_eq (by decide)) (fun _ => ?_) (fun e => absurd e (by decide))
        refine u_ld (v := iV (-1)) (pc := 27) (dec_at lsk_290 (k := 15) rfl) rfl ?_
        exact u_rI (pc := 28) (dec_at lsk_290 (k := 16) rfl) rfl h
      · have h := ifF e5 h
        refine u_ld (v := iV 1) (pc := 13) (dec_at lsk_203 (k := 8) rfl) rfl ?_
        refine u_goto (pc := 14) (tgt := 18) (dec_at lsk_203 (k := 9) rfl) rfl ?_
        refine u_rZ (pc := 18) (dec_at lsk_203 (k := 11) rfl) rfl (by decide) ?_
        refine u_ifT (pc := 14) (tgt := 27) (dec_at lsk_290 (k := 8) rfl) rfl (c0_eq (by decide)) (fun e => absurd e (by decide)) (fun _ => ?_)
        refine u_ld (v := iV l2) (pc := 17) (dec_at lsk_290 (k := 9) rfl) rfl ?_
        have g6 := h.1
        have h := h.2
        refine u_i2l (pc := 18) (dec_at lsk_290 (k := 10) rfl) g6 ?_
        refine u_cl (x := 0) (pc := 19) (dec_at lsk_290 (k := 11) rfl) rfl (by decide) ?_
        refine u_cl (x := 1) (pc := 20) (dec_at lsk_290 (k := 12) rfl) rfl (by decide) ?_
        refine u_csI (As := [lV l2, lV 0, lV 1]) (st2 := []) (pc := 21) (dec_at lsk_290 (k := 13) rfl) m_12_250 (Or.inl rfl) rfl (Nat.le_of_ble_eq_true rfl) ?_ (fun _ _ h_ => h_)
        refine u_of me_203 (Nat.le_of_ble_eq_true rfl) ?_
        refine u_ld (v := lV l2) (pc := 0) (dec_at lsk_203 (k := 0) rfl) rfl ?_
        refine u_ld (v := lV 0) (pc := 1) (dec_at lsk_203 (k := 1) rfl) rfl ?_
        refine u_st (st' := [.int (lg_cmp (Int64.ofInt l2) (Int64.ofInt 0))]) (pc := 2) (dec_at lsk_203 (k := 2) rfl) rfl ?_
        refine u_ifT (pc := 3) (tgt := 17) (dec_at lsk_203 (k := 3) rfl) rfl (cl_lt (rl_ri g6) (by decide)) (fun e7 => ?_) (fun e7 => ?_)
        · have h := ifT e7 h
          refine u_ld (v := iV 0) (pc := 17) (dec_at lsk_203 (k := 10) rfl) rfl ?_
          refine u_rZ (pc := 18) (dec_at lsk_203 (k := 11) rfl) rfl (by decide) ?_
          refine u_ifF (pc := 24) (tgt := 29) (dec_at lsk_290 (k := 14) rfl) rfl (c0_ne (by decide)) (fun _ => ?_) (fun e => absurd e (by decide))
          refine u_ld (v := iV (-1)) (pc := 27) (dec_at lsk_290 (k := 15) rfl) rfl ?_
          exact u_rI (pc := 28) (dec_at lsk_290 (k := 16) rfl) rfl h
        · have h := ifF e7 h
          refine u_ld (v := lV l2) (pc := 6) (dec_at lsk_203 (k := 4) rfl) rfl ?_
          refine u_ld (v := lV 1) (pc := 7) (dec_at lsk_203 (k := 5) rfl) rfl ?_
          refine u_st (st' := [.int (lg_cmp (Int64.ofInt l2) (Int64.ofInt 1))]) (pc := 9) (dec_at lsk_203 (k := 6) rfl) rfl ?_
          refine u_ifT (pc := 10) (tgt := 17) (dec_at lsk_203 (k := 7) rfl) rfl (cl_gt (rl_ri g6) (by decide)) (fun e8 => ?_) (fun e8 => ?_)
          · have h := ifT e8 h
            refine u_ld (v := iV 0) (pc := 17) (dec_at lsk_203 (k := 10) rfl) rfl ?_
            refine u_rZ (pc := 18) (dec_at lsk_203 (k := 11) rfl) rfl (by decide) ?_
            refine u_ifF (pc := 24) (tgt := 29) (dec_at lsk_290 (k := 14) rfl) rfl (c0_ne (by decide)) (fun _ => ?_) (fun e => absurd e (by decide))
            refine u_ld (v := iV (-1)) (pc := 27) (dec_at lsk_290 (k := 15) rfl) rfl ?_
            exact u_rI (pc := 28) (dec_at lsk_290 (k := 16) rfl) rfl h
          · have h := ifF e8 h
            refine u_ld (v := iV 1) (pc := 13) (dec_at lsk_203 (k := 8) rfl) rfl ?_
            refine u_goto (pc := 14) (tgt := 18) (dec_at lsk_203 (k := 9) rfl) rfl ?_
            refine u_rZ (pc := 18) (dec_at lsk_203 (k := 11) rfl) rfl (by decide) ?_
            refine u_ifF (pc := 24) (tgt := 29) (dec_at lsk_290 (k := 14) rfl) rfl (c0_ne (by decide)) (fun e => absurd e (by decide)) (fun _ => ?_)
            refine u_ld (v := .ref 271) (pc := 29) (dec_at lsk_290 (k := 17) rfl) rfl ?_
            refine u_ld (v := iV l1) (pc := 30) (dec_at lsk_290 (k := 18) rfl) rfl ?_
            refine u_cvV (As := [iV l1]) (rb := 271) (st2 := []) (pc := 31) (dec_at lsk_290 (k := 19) rfl) m_12_526 (Or.inl rfl) rfl (Nat.le_of_ble_eq_true rfl) sx_271 me_269 rfl h (fun u9 h => ?_)
            refine u_ld (v := iV 0) (pc := 34) (dec_at lsk_290 (k := 20) rfl) rfl ?_
            refine u_sto (lv' := [.ref 271, iV l1, iV l2, iV 0]) (pc := 35) (dec_at lsk_290 (k := 21) rfl) rfl ?_
            exact h
theorem k_290_36 {d : Nat} {Q : Int → uS → Prop} {u : uS} {l1 l2 l3 : Int} (h : (0 ≤ l1) ∧ ((l1 < 100) ∧ ((rI l3) ∧ ((rI (u.1 301 l1)) ∧ (if l3 < u.1 301 l1 then ((0 ≤ (((10 * 0) + 0) * 40) + l3) ∧ (((((10 * 0) + 0) * 40) + l3 < 16000) ∧ ((rL (u.1 324 ((((10 * 0) + 0) * 40) + l3))) ∧ (if u.1 324 ((((10 * 0) + 0) * 40) + l3) = 6000000000000000000 then (K_290 (d + 1) 36 [.ref 271, iV l1, iV l2, iV (l3 + 1)] [] u Q) else ((0 ≤ (40 * l1) + l3) ∧ (((40 * l1) + l3 < 4000) ∧ ((rI l2) ∧ (if l2 = 0 then ((rI (u.1 303 ((40 * l1) + l3))) ∧ (if u.1 303 ((40 * l1) + l3) = 1 then (Q 1 u) else (K_290 (d + 1) 36 [.ref 271, iV l1, iV l2, iV (l3 + 1)] [] u Q))) else ((rI (u.1 303 ((40 * l1) + l3))) ∧ (if u.1 303 ((40 * l1) + l3) = 0 then (Q 1 u) else (K_290 (d + 1) 36 [.ref 271, iV l1, iV l2, iV (l3 + 1)] [] u Q))))))))))) else (Q 0 u)))))) : K_290 (d + 1) 36 [.ref 271, iV l1, iV l2, iV l3] [] u Q := by
  unfold K_290
  refine u_ld (v := iV l3) (pc := 36) (dec_at lsk_290 (k := 22) rfl) rfl ?_
  refine u_ld (v := .ref 271) (pc := 37) (dec_at lsk_290 (k := 23) rfl) rfl ?_
  refine u_gS (o := 30) (p := 301) (pc := 38) (dec_at lsk_290 (k := 24) rfl) f_12_99 sx_271 rfl rfl ?_
  refine u_ld (v := iV l1) (pc := 41) (dec_at lsk_290 (k := 25) rfl) rfl ?_
  have g1 := h.1
  have h := h.2
  have g2 := h.1
  have h := h.2
  refine u_iald (pc := 42) (dec_at lsk_290 (k := 26) rfl) sx_301 g1 g2 ?_
  have g3 := h.1
  have h := h.2
  have g4 := h.1
  have h := h.2
  refine u_icF (pc := 43) (tgt := 95) (dec_at lsk_290 (k := 27) rfl) rfl (ci_ge g3 g4) (fun e5 => ?_) (fun e5 => ?_)
  · have h := ifT e5 h
    refine u_ld (v := .ref 271) (pc := 46) (dec_at lsk_290 (k := 28) rfl) rfl ?_
    refine u_gS (o := 53) (p := 324) (pc := 47) (dec_at lsk_290 (k := 29) rfl) f_12_169 sx_271 rfl rfl ?_
    refine u_ld (v := iV 0) (pc := 50) (dec_at lsk_290 (k := 30) rfl) rfl ?_
    refine u_ld (v := iV 0) (pc := 51) (dec_at lsk_290 (k := 31) rfl) rfl ?_
    refine u_ld (v := iV l3) (pc := 52) (dec_at lsk_290 (k := 32) rfl) rfl ?_
    refine u_csI (As := [iV 0, iV 0, iV l3]) (st2 := [.ref 324]) (pc := 53) (dec_at lsk_290 (k := 33) rfl) m_12_494 (Or.inl rfl) rfl (Nat.le_of_ble_eq_true rfl) ?_ (fun _ _ h_ => h_)
    refine u_of me_274 (Nat.le_of_ble_eq_true rfl) ?_
    refine u_c (x := 10) (pc := 0) (dec_at lsk_274 (k := 0) rfl) rfl (by decide) ?_
    refine u_ld (v := iV 0) (pc := 2) (dec_at lsk_274 (k := 1) rfl) rfl ?_
    refine u_imul (pc := 3) (dec_at lsk_274 (k := 2) rfl) ?_
    refine u_ld (v := iV 0) (pc := 4) (dec_at lsk_274 (k := 3) rfl) rfl ?_
    refine u_iadd (pc := 5) (dec_at lsk_274 (k := 4) rfl) ?_
    refine u_c (x := 40) (pc := 6) (dec_at lsk_274 (k := 5) rfl) rfl (by decide) ?_
    refine u_imul (pc := 8) (dec_at lsk_274 (k := 6) rfl) ?_
    refine u_ld (v := iV l3) (pc := 9) (dec_at lsk_274 (k := 7) rfl) rfl ?_
    refine u_iadd (pc := 10) (dec_at lsk_274 (k := 8) rfl) ?_
    refine u_rI (pc := 11) (dec_at lsk_274 (k := 9) rfl) rfl ?_
    have g6 := h.1
    have h := h.2
    have g7 := h.1
    have h := h.2
    refine u_lald (pc := 56) (dec_at lsk_290 (k := 34) rfl) sx_324 g6 g7 ?_
    refine u_ldc2 (x := 6000000000000000000) (pc := 57) (dec_at lsk_290 (k := 35) rfl) con_12_487 (by decide) ?_
    refine u_st (st' := [.int (lg_cmp (Int64.ofInt (u.1 324 ((((10 * 0) + 0) * 40) + l3))) (Int64.ofInt 6000000000000000000))]) (pc := 60) (dec_at lsk_290 (k := 36) rfl) rfl ?_
    have g8 := h.1
    have h := h.2
    refine u_ifT (pc := 61) (tgt := 89) (dec_at lsk_290 (k := 37) rfl) rfl (cl_eq g8 (by decide)) (fun e9 => ?_) (fun e9 => ?_)
    · have h := ifT e9 h
      refine u_inc (lv' := [.ref 271, iV l1, iV l2, iV (l3 + 1)]) (pc := 89) (dec_at lsk_290 (k := 54) rfl) rfl (by decide) rfl ?_
      refine u_goto (pc := 92) (tgt := 36) (dec_at lsk_290 (k := 55) rfl) rfl ?_
      exact h
    · have h := ifF e9 h
      refine u_ld (v := .ref 271) (pc := 64) (dec_at lsk_290 (k := 38) rfl) rfl ?_
      refine u_gS (o := 32) (p := 303) (pc := 65) (dec_at lsk_290 (k := 39) rfl) f_12_106 sx_271 rfl rfl ?_
      refine u_c (x := 40) (pc := 68) (dec_at lsk_290 (k := 40) rfl) rfl (by decide) ?_
      refine u_ld (v := iV l1) (pc := 70) (dec_at lsk_290 (k := 41) rfl) rfl ?_
      refine u_imul (pc := 71) (dec_at lsk_290 (k := 42) rfl) ?_
      refine u_ld (v := iV l3) (pc := 72) (dec_at lsk_290 (k := 43) rfl) rfl ?_
      refine u_iadd (pc := 73) (dec_at lsk_290 (k := 44) rfl) ?_
      have g10 := h.1
      have h := h.2
      have g11 := h.1
      have h := h.2
      refine u_zald (pc := 74) (dec_at lsk_290 (k := 45) rfl) sx_303 g10 g11 ?_
      refine u_ld (v := iV l2) (pc := 75) (dec_at lsk_290 (k := 46) rfl) rfl ?_
      have g12 := h.1
      have h := h.2
      refine u_ifF (pc := 76) (tgt := 83) (dec_at lsk_290 (k := 47) rfl) rfl (c0_ne g12) (fun e13 => ?_) (fun e13 => ?_)
      · have h := ifT e13 h
        refine u_ld (v := iV 1) (pc := 79) (dec_at lsk_290 (k := 48) rfl) rfl ?_
        refine u_goto (pc := 80) (tgt := 84) (dec_at lsk_290 (k := 49) rfl) rfl ?_
        have g14 := h.1
        have h := h.2
        refine u_icF (pc := 84) (tgt := 89) (dec_at lsk_290 (k := 51) rfl) rfl (ci_ne g14 (by decide)) (fun e15 => ?_) (fun e15 => ?_)
        · have h := ifT e15 h
          refine u_ld (v := iV 1) (pc := 87) (dec_at lsk_290 (k := 52) rfl) rfl ?_
          exact u_rI (pc := 88) (dec_at lsk_290 (k := 53) rfl) rfl h
        · have h := ifF e15 h
          refine u_inc (lv' := [.ref 271, iV l1, iV l2, iV (l3 + 1)]) (pc := 89) (dec_at lsk_290 (k := 54) rfl) rfl (by decide) rfl ?_
          refine u_goto (pc := 92) (tgt := 36) (dec_at lsk_290 (k := 55) rfl) rfl ?_
          exact h
      · have h := ifF e13 h
        refine u_ld (v := iV 0) (pc := 83) (dec_at lsk_290 (k := 50) rfl) rfl ?_
        have g16 := h.1
        have h := h.2
        refine u_icF (pc := 84) (tgt := 89) (dec_at lsk_290 (k := 51) rfl) rfl (ci_ne g16 (by decide)) (fun e17 => ?_) (fun e17 => ?_)
        · have h := ifT e17 h
          refine u_ld (v := iV 1) (pc := 87) (dec_at lsk_290 (k := 52) rfl) rfl ?_
          exact u_rI (pc := 88) (dec_at lsk_290 (k := 53) rfl) rfl h
        · have h := ifF e17 h
          refine u_inc (lv' := [.ref 271, iV l1, iV l2, iV (l3 + 1)]) (pc := 89) (dec_at lsk_290 (k := 54) rfl) rfl (by decide) rfl ?_
          refine u_goto (pc := 92) (tgt := 36) (dec_at lsk_290 (k := 55) rfl) rfl ?_
          exact h
  · have h := ifF e5 h
    refine u_ld (v := iV 0) (pc := 95) (dec_at lsk_290 (k := 56) rfl) rfl ?_
    exact u_rI (pc := 96) (dec_at lsk_290 (k := 57) rfl) rfl h
