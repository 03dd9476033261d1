/-! Conditions (wip/tools/gen_k.py) -/
/-- method 228 -/
def K_228 (d pc : Nat) (lv : ev_L) (st : List Value) (u : uS) (Q : uS → Prop) : Prop := okU d 12 11 false none prog_14_method_31_code (qV Q) pc lv st u
theorem e_228 {d : Nat} {Q : uS → Prop} {u : uS} {l1 l2 l3 : Int} (h : K_228 (d + 1) 3 [.ref 271, iV l1, iV l2, iV l3, iV 0, .retAddr 0, .retAddr 0, .retAddr 0, .retAddr 0, .retAddr 0, .retAddr 0] [] u Q) : cV (d + 2) 228 [.ref 271, iV l1, iV l2, iV l3] u Q := by
  refine u_of me_228 (Nat.le_of_ble_eq_true rfl) ?_
  refine u_ld (v := iV 0) (pc := 0) (dec_at lsk_228 (k := 0) rfl) rfl ?_
  refine u_sto (lv' := [.ref 271, iV l1, iV l2, iV l3, iV 0, .retAddr 0, .retAddr 0, .retAddr 0, .retAddr 0, .retAddr 0, .retAddr 0]) (pc := 1) (dec_at lsk_228 (k := 1) rfl) rfl ?_
  exact h
theorem k_228_3 {d : Nat} {Q : uS → Prop} {u : uS} {l1 l2 l3 l4 : Int} (h : (rI l4) ∧ (if l4 < 100 then ((0 ≤ l4) ∧ (∀ u4 : uS, u4 = wr u 298 l4 0 → (K_228 (d + 1) 3 [.ref 271, iV l1, iV l2, iV l3, iV (l4 + 1), .retAddr 0, .retAddr 0, .retAddr 0, .retAddr 0, .retAddr 0, .retAddr 0] [] u4 Q))) else (K_228 (d + 1) 27 [.ref 271, iV l1, iV l2, iV l3, iV 0, .retAddr 0, .retAddr 0, .retAddr 0, .retAddr 0, .retAddr 0, .retAddr 0] [] u Q))) : K_228 (d + 1) 3 [.ref 271, iV l1, iV l2, iV l3, iV l4, .retAddr 0, .retAddr 0, .retAddr 0, .retAddr 0, .retAddr 0, .retAddr 0] [] u Q := by
  unfold K_228
  refine u_ld (v := iV l4) (pc := 3) (dec_at lsk_228 (k := 2) rfl) rfl ?_
  refine u_c (x := 100) (pc := 5) (dec_at lsk_228 (k := 3) rfl) rfl (by decide) ?_
  have g1 := h.1
  have h := h.2
  refine u_icF (pc := 7) (tgt := 24) (dec_at lsk_228 (k := 4) rfl) rfl (ci_ge g1 (by decide)) (fun e2 => ?_) (fun e2 => ?_)
  · have h := ifT e2 h
    refine u_ld (v := .ref 271) (pc := 10) (dec_at lsk_228 (k := 5) rfl) rfl ?_
    refine u_gS (o := 27) (p := 298) (pc := 11) (dec_at lsk_228 (k := 6) rfl) f_12_90 sx_271 rfl rfl ?_
    refine u_ld (v := iV l4) (pc := 14) (dec_at lsk_228 (k := 7) rfl) rfl ?_
    refine u_cl (x := 0) (pc := 16) (dec_at lsk_228 (k := 8) rfl) rfl (by decide) ?_
    have g3 := h.1
    have h := h.2
    refine u_last (pc := 17) (dec_at lsk_228 (k := 9) rfl) sx_298 g3 e2 (fun u4 e5 => ?_)
    have h := h u4 e5
    refine u_inc (lv' := [.ref 271, iV l1, iV l2, iV l3, iV (l4 + 1), .retAddr 0, .retAddr 0, .retAddr 0, .retAddr 0, .retAddr 0, .retAddr 0]) (pc := 18) (dec_at lsk_228 (k := 10) rfl) rfl (by decide) rfl ?_
    refine u_goto (pc := 21) (tgt := 3) (dec_at lsk_228 (k := 11) rfl) rfl ?_
    exact h
  · have h := ifF e2 h
    refine u_ld (v := iV 0) (pc := 24) (dec_at lsk_228 (k := 12) rfl) rfl ?_
    refine u_sto (lv' := [.ref 271, iV l1, iV l2, iV l3, iV 0, .retAddr 0, .retAddr 0, .retAddr 0, .retAddr 0, .retAddr 0, .retAddr 0]) (pc := 25) (dec_at lsk_228 (k := 13) rfl) rfl ?_
    exact h
theorem k_228_27 {d : Nat} {Q : uS → Prop} {u : uS} {l1 l2 l3 l4 : Int} (h : (rI l4) ∧ (if l4 < 10 then ((0 ≤ l4) ∧ (∀ u4 : uS, u4 = wr u 299 l4 0 → (∀ u6 : uS, u6 = wr u4 300 l4 0 → (K_228 (d + 1) 27 [.ref 271, iV l1, iV l2, iV l3, iV (l4 + 1), .retAddr 0, .retAddr 0, .retAddr 0, .retAddr 0, .retAddr 0, .retAddr 0] [] u6 Q)))) else (K_228 (d + 1) 59 [.ref 271, iV l1, iV l2, iV l3, iV 0, .retAddr 0, .retAddr 0, .retAddr 0, .retAddr 0, .retAddr 0, .retAddr 0] [] u Q))) : K_228 (d + 1) 27 [.ref 271, iV l1, iV l2, iV l3, iV l4, .retAddr 0, .retAddr 0, .retAddr 0, .retAddr 0, .retAddr 0, .retAddr 0] [] u Q := by
  unfold K_228
  refine u_ld (v := iV l4) (pc := 27) (dec_at lsk_228 (k := 14) rfl) rfl ?_
  refine u_c (x := 10) (pc := 29) (dec_at lsk_228 (k := 15) rfl) rfl (by decide) ?_
  have g1 := h.1
  have h := h.2
  refine u_icF (pc := 31) (tgt := 56) (dec_at lsk_228 (k := 16) rfl) rfl (ci_ge g1 (by decide)) (fun e2 => ?_) (fun e2 => ?_)
  · have h := ifT e2 h
    refine u_ld (v := .ref 271) (pc := 34) (dec_at lsk_228 (k := 17) rfl) rfl ?_
    refine u_gS (o := 28) (p := 299) (pc := 35) (dec_at lsk_228 (k := 18) rfl) f_12_93 sx_271 rfl rfl ?_
    refine u_ld (v := iV l4) (pc := 38) (dec_at lsk_228 (k := 19) rfl) rfl ?_
    refine u_cl (x := 0) (pc := 40) (dec_at lsk_228 (k := 20) rfl) rfl (by decide) ?_
    have g3 := h.1
    have h := h.2
    refine u_last (pc := 41) (dec_at lsk_228 (k := 21) rfl) sx_299 g3 e2 (fun u4 e5 => ?_)
    have h := h u4 e5
    refine u_ld (v := .ref 271) (pc := 42) (dec_at lsk_228 (k := 22) rfl) rfl ?_
    refine u_gS (o := 29) (p := 300) (pc := 43) (dec_at lsk_228 (k := 23) rfl) f_12_96 sx_271 rfl rfl ?_
    refine u_ld (v := iV l4) (pc := 46) (dec_at lsk_228 (k := 24) rfl) rfl ?_
    refine u_ld (v := iV 0) (pc := 48) (dec_at lsk_228 (k := 25) rfl) rfl ?_
    refine u_zast (pc := 49) (dec_at lsk_228 (k := 26) rfl) sx_300 g3 e2 (by decide) (fun u6 e7 => ?_)
    have h := h u6 e7
    refine u_inc (lv' := [.ref 271, iV l1, iV l2, iV l3, iV (l4 + 1), .retAddr 0, .retAddr 0, .retAddr 0, .retAddr 0, .retAddr 0, .retAddr 0]) (pc := 50) (dec_at lsk_228 (k := 27) rfl) rfl (by decide) rfl ?_
    refine u_goto (pc := 53) (tgt := 27) (dec_at lsk_228 (k := 28) rfl) rfl ?_
    exact h
  · have h := ifF e2 h
    refine u_ld (v := iV 0) (pc := 56) (dec_at lsk_228 (k := 29) rfl) rfl ?_
    refine u_sto (lv' := [.ref 271, iV l1, iV l2, iV l3, iV 0, .retAddr 0, .retAddr 0, .retAddr 0, .retAddr 0, .retAddr 0, .retAddr 0]) (pc := 57) (dec_at lsk_228 (k := 30) rfl) rfl ?_
    exact h
theorem k_228_59 {d : Nat} {Q : uS → Prop} {u : uS} {l1 l2 l3 l4 : Int} (h : (rI l4) ∧ ((rI (u.1 271 6)) ∧ (if l4 < u.1 271 6 then ((0 ≤ l4) ∧ ((l4 < 30) ∧ ((0 ≤ u.1 275 l4) ∧ ((u.1 275 l4 < 10) ∧ (cL (d + 1) 229 [.ref 271, iV l4, iV l1, iV l2, iV l3] u (fun r9 u8 => (cn 5000000000000000000 (u.1 299 (u.1 275 l4))) ∧ ((cn 5000000000000000000 r9) ∧ (∀ u12 : uS, u12 = wr u8 299 (u.1 275 l4) (pl 5000000000000000000 (u.1 299 (u.1 275 l4)) r9) → (K_228 (d + 1) 106 [.ref 271, iV l1, iV l2, iV l3, iV l4, iV (u.1 275 l4), iV 0, .retAddr 0, .retAddr 0, .retAddr 0, .retAddr 0] [] u12 Q))))))))) else (K_228 (d + 1) 273 [.ref 271, iV l1, iV l2, iV l3, iV 1, .retAddr 0, .retAddr 0, .retAddr 0, .retAddr 0, .retAddr 0, .retAddr 0] [] u Q)))) : K_228 (d + 1) 59 [.ref 271, iV l1, iV l2, iV l3, iV l4, .retAddr 0, .retAddr 0, .retAddr 0, .retAddr 0, .retAddr 0, .retAddr 0] [] u Q := by
  unfold K_228
  refine u_ld (v := iV l4) (pc := 59) (dec_at lsk_228 (k := 31) rfl) rfl ?_
  refine u_ld (v := .ref 271) (pc := 61) (dec_at lsk_228 (k := 32) rfl) rfl ?_
  refine u_gI (z := 6) (pc := 62) (dec_at lsk_228 (k := 33) rfl) f_12_306 sx_271 rfl rfl ?_
  have g1 := h.1
  have h := h.2
  have g2 := h.1
  have h := h.2
  refine u_icF (pc := 65) (tgt := 270) (dec_at lsk_228 (k := 34) rfl) rfl (ci_ge g1 g2) (fun e3 => ?_) (fun e3 => ?_)
  · have h := ifT e3 h
    refine u_ld (v := .ref 271) (pc := 68) (dec_at lsk_228 (k := 35) rfl) rfl ?_
    refine u_gS (o := 4) (p := 275) (pc := 69) (dec_at lsk_228 (k := 36) rfl) f_12_19 sx_271 rfl rfl ?_
    refine u_ld (v := iV l4) (pc := 72) (dec_at lsk_228 (k := 37) rfl) rfl ?_
    have g4 := h.1
    have h := h.2
    have g5 := h.1
    have h := h.2
    refine u_iald (pc := 74) (dec_at lsk_228 (k := 38) rfl) sx_275 g4 g5 ?_
    refine u_sto (lv' := [.ref 271, iV l1, iV l2, iV l3, iV l4, iV (u.1 275 l4), .retAddr 0, .retAddr 0, .retAddr 0, .retAddr 0, .retAddr 0]) (pc := 75) (dec_at lsk_228 (k := 39) rfl) rfl ?_
    refine u_ld (v := .ref 271) (pc := 77) (dec_at lsk_228 (k := 40) rfl) rfl ?_
    refine u_gS (o := 28) (p := 299) (pc := 78) (dec_at lsk_228 (k := 41) rfl) f_12_93 sx_271 rfl rfl ?_
    refine u_ld (v := iV (u.1 275 l4)) (pc := 81) (dec_at lsk_228 (k := 42) rfl) rfl ?_
    refine u_ld (v := .ref 271) (pc := 83) (dec_at lsk_228 (k := 43) rfl) rfl ?_
    refine u_gS (o := 28) (p := 299) (pc := 84) (dec_at lsk_228 (k := 44) rfl) f_12_93 sx_271 rfl rfl ?_
    refine u_ld (v := iV (u.1 275 l4)) (pc := 87) (dec_at lsk_228 (k := 45) rfl) rfl ?_
    have g6 := h.1
    have h := h.2
    have g7 := h.1
    have h := h.2
    refine u_lald (pc := 89) (dec_at lsk_228 (k := 46) rfl) sx_299 g6 g7 ?_
    refine u_ld (v := .ref 271) (pc := 90) (dec_at lsk_228 (k := 47) rfl) rfl ?_
    refine u_ld (v := iV l4) (pc := 91) (dec_at lsk_228 (k := 48) rfl) rfl ?_
    refine u_ld (v := iV l1) (pc := 93) (dec_at lsk_228 (k := 49) rfl) rfl ?_
    refine u_ld (v := iV l2) (pc := 94) (dec_at lsk_228 (k := 50) rfl) rfl ?_
    refine u_ld (v := iV l3) (pc := 95) (dec_at lsk_228 (k := 51) rfl) rfl ?_
    refine u_cvL (As := [iV l4, iV l1, iV l2, iV l3]) (rb := 271) (st2 := [lV (u.1 299 (u.1 275 l4)), iV (u.1 275 l4), .ref 299]) (pc := 96) (dec_at lsk_228 (k := 52) rfl) m_12_356 (Or.inl rfl) rfl (Nat.le_of_ble_eq_true rfl) sx_271 me_229 rfl h (fun r9 u8 h => ?_)
    have g10 := h.1
    have h := h.2
    have g11 := h.1
    have h := h.2
    refine u_csL (As := [lV (u.1 299 (u.1 275 l4)), lV r9]) (st2 := [iV (u.1 275 l4), .ref 299]) (pc := 99) (dec_at lsk_228 (k := 53) rfl) m_12_323 (Or.inl rfl) rfl (Nat.le_of_ble_eq_true rfl) (p_217 g10 g11) (fun r_ u_ h_ => ?_)
    rw [h_.1, h_.2]
    refine u_last (pc := 102) (dec_at lsk_228 (k := 54) rfl) sx_299 g6 g7 (fun u12 e13 => ?_)
    have h := h u12 e13
    refine u_ld (v := iV 0) (pc := 103) (dec_at lsk_228 (k := 55) rfl) rfl ?_
    refine u_sto (lv' := [.ref 271, iV l1, iV l2, iV l3, iV l4, iV (u.1 275 l4), iV 0, .retAddr 0, .retAddr 0, .retAddr 0, .retAddr 0]) (pc := 104) (dec_at lsk_228 (k := 56) rfl) rfl ?_
    exact h
  · have h := ifF e3 h
    refine u_ld (v := iV 1) (pc := 270) (dec_at lsk_228 (k := 142) rfl) rfl ?_
    refine u_sto (lv' := [.ref 271, iV l1, iV l2, iV l3, iV 1, .retAddr 0, .retAddr 0, .retAddr 0, .retAddr 0, .retAddr 0, .retAddr 0]) (pc := 271) (dec_at lsk_228 (k := 143) rfl) rfl ?_
    exact h
theorem k_228_106 {d : Nat} {Q : uS → Prop} {u : uS} {l1 l2 l3 l4 l5 l6 : Int} (h : (0 ≤ l4) ∧ ((l4 < 30) ∧ ((rI l6) ∧ ((rI (u.1 276 l4)) ∧ (if l6 < u.1 276 l4 then ((0 ≤ (6 * l4) + l6) ∧ (((6 * l4) + l6 < 180) ∧ ((rI (u.1 277 ((6 * l4) + l6))) ∧ (if u.1 277 ((6 * l4) + l6) < 100 then (K_228 (d + 1) 106 [.ref 271, iV l1, iV l2, iV l3, iV l4, iV l5, iV (l6 + 1), .retAddr 0, .retAddr 0, .retAddr 0, .retAddr 0] [] u Q) else (K_228 (d + 1) 142 [.ref 271, iV l1, iV l2, iV l3, iV l4, iV l5, iV l6, lV 1, .retAddr 0, iV 0, .retAddr 0] [] u Q))))) else (K_228 (d + 1) 59 [.ref 271, iV l1, iV l2, iV l3, iV (l4 + 1), .retAddr 0, .retAddr 0, .retAddr 0, .retAddr 0, .retAddr 0, .retAddr 0] [] u Q)))))) : K_228 (d + 1) 106 [.ref 271, iV l1, iV l2, iV l3, iV l4, iV l5, iV l6, .retAddr 0, .retAddr 0, .retAddr 0, .retAddr 0] [] u Q := by
  unfold K_228
  refine u_ld (v := iV l6) (pc := 106) (dec_at lsk_228 (k := 57) rfl) rfl ?_
  refine u_ld (v := .ref 271) (pc := 108) (dec_at lsk_228 (k := 58) rfl) rfl ?_
  refine u_gS (o := 5) (p := 276) (pc := 109) (dec_at lsk_228 (k := 59) rfl) f_12_22 sx_271 rfl rfl ?_
  refine u_ld (v := iV l4) (pc := 112) (dec_at lsk_228 (k := 60) rfl) rfl ?_
  have g1 := h.1
  have h := h.2
  have g2 := h.1
  have h := h.2
  refine u_iald (pc := 114) (dec_at lsk_228 (k := 61) rfl) sx_276 g1 g2 ?_
  have g3 := h.1
  have h := h.2
  have g4 := h.1
  have h := h.2
  refine u_icF (pc := 115) (tgt := 264) (dec_at lsk_228 (k := 62) rfl) rfl (ci_ge g3 g4) (fun e5 => ?_) (fun e5 => ?_)
  · have h := ifT e5 h
    refine u_ld (v := .ref 271) (pc := 118) (dec_at lsk_228 (k := 63) rfl) rfl ?_
    refine u_gS (o := 6) (p := 277) (pc := 119) (dec_at lsk_228 (k := 64) rfl) f_12_25 sx_271 rfl rfl ?_
    refine u_c (x := 6) (pc := 122) (dec_at lsk_228 (k := 65) rfl) rfl (by decide) ?_
    refine u_ld (v := iV l4) (pc := 124) (dec_at lsk_228 (k := 66) rfl) rfl ?_
    refine u_imul (pc := 126) (dec_at lsk_228 (k := 67) rfl) ?_
    refine u_ld (v := iV l6) (pc := 127) (dec_at lsk_228 (k := 68) rfl) rfl ?_
    refine u_iadd (pc := 129) (dec_at lsk_228 (k := 69) rfl) ?_
    have g6 := h.1
    have h := h.2
    have g7 := h.1
    have h := h.2
    refine u_iald (pc := 130) (dec_at lsk_228 (k := 70) rfl) sx_277 g6 g7 ?_
    refine u_c (x := 100) (pc := 131) (dec_at lsk_228 (k := 71) rfl) rfl (by decide) ?_
    have g8 := h.1
    have h := h.2
    refine u_icT (pc := 133) (tgt := 258) (dec_at lsk_228 (k := 72) rfl) rfl (ci_lt g8 (by decide)) (fun e9 => ?_) (fun e9 => ?_)
    · have h := ifT e9 h
      refine u_inc (lv' := [.ref 271, iV l1, iV l2, iV l3, iV l4, iV l5, iV (l6 + 1), .retAddr 0, .retAddr 0, .retAddr 0, .retAddr 0]) (pc := 258) (dec_at lsk_228 (k := 138) rfl) rfl (by decide) rfl ?_
      refine u_goto (pc := 261) (tgt := 106) (dec_at lsk_228 (k := 139) rfl) rfl ?_
      exact h
    · have h := ifF e9 h
      refine u_cl (x := 1) (pc := 136) (dec_at lsk_228 (k := 73) rfl) rfl (by decide) ?_
      refine u_sto (lv' := [.ref 271, iV l1, iV l2, iV l3, iV l4, iV l5, iV l6, lV 1, .retAddr 0, .retAddr 0, .retAddr 0]) (pc := 137) (dec_at lsk_228 (k := 74) rfl) rfl ?_
      refine u_ld (v := iV 0) (pc := 139) (dec_at lsk_228 (k := 75) rfl) rfl ?_
      refine u_sto (lv' := [.ref 271, iV l1, iV l2, iV l3, iV l4, iV l5, iV l6, lV 1, .retAddr 0, iV 0, .retAddr 0]) (pc := 140) (dec_at lsk_228 (k := 76) rfl) rfl ?_
      exact h
  · have h := ifF e5 h
    refine u_inc (lv' := [.ref 271, iV l1, iV l2, iV l3, iV (l4 + 1), iV l5, iV l6, .retAddr 0, .retAddr 0, .retAddr 0, .retAddr 0]) (pc := 264) (dec_at lsk_228 (k := 140) rfl) rfl (by decide) rfl ?_
    refine u_goto (pc := 267) (tgt := 59) (dec_at lsk_228 (k := 141) rfl) rfl ?_
    exact u_weak (sbK (sbK (sbK (sbK (sbK (sbD (sbD (sbK (sbK (sbK (sbK sb0))))))))))) h
theorem k_228_142 {d : Nat} {Q : uS → Prop} {u : uS} {l1 l2 l3 l4 l5 l6 l7 l9 : Int} (h : (0 ≤ l4) ∧ ((l4 < 30) ∧ ((rI l9) ∧ ((rI (u.1 276 l4)) ∧ (if l9 < u.1 276 l4 then ((0 ≤ (6 * l4) + l9) ∧ (((6 * l4) + l9 < 180) ∧ ((rI l6) ∧ (if l9 = l6 then (K_228 (d + 1) 142 [.ref 271, iV l1, iV l2, iV l3, iV l4, iV l5, iV l6, lV l7, .retAddr 0, iV (l9 + 1), .retAddr 0] [] u Q) else ((rI (u.1 277 ((6 * l4) + l9))) ∧ (if u.1 277 ((6 * l4) + l9) < 100 then (K_228 (d + 1) 142 [.ref 271, iV l1, iV l2, iV l3, iV l4, iV l5, iV l6, lV 0, .retAddr 0, iV (l9 + 1), .retAddr 0] [] u Q) else ((0 ≤ (u.1 277 ((6 * l4) + l9)) - 100) ∧ (((u.1 277 ((6 * l4) + l9)) - 100 < 10) ∧ ((cn 5000000000000000000 l7) ∧ ((cn 5000000000000000000 (u.1 292 ((u.1 277 ((6 * l4) + l9)) - 100))) ∧ (K_228 (d + 1) 142 [.ref 271, iV l1, iV l2, iV l3, iV l4, iV l5, iV l6, lV (tm 5000000000000000000 l7 (u.1 292 ((u.1 277 ((6 * l4) + l9)) - 100))), .retAddr 0, iV (l9 + 1), .retAddr 0] [] u Q))))))))))) else ((0 ≤ (6 * l4) + l6) ∧ (((6 * l4) + l6 < 180) ∧ ((0 ≤ ((10 * l5) + (u.1 277 ((6 * l4) + l6))) - 100) ∧ ((((10 * l5) + (u.1 277 ((6 * l4) + l6))) - 100 < 100) ∧ ((cn 5000000000000000000 (u.1 298 (((10 * l5) + (u.1 277 ((6 * l4) + l6))) - 100))) ∧ ((cn 5000000000000000000 l7) ∧ (∀ u22 : uS, u22 = wr u 298 (((10 * l5) + (u.1 277 ((6 * l4) + l6))) - 100) (pl 5000000000000000000 (u.1 298 (((10 * l5) + (u.1 277 ((6 * l4) + l6))) - 100)) l7) → (K_228 (d + 1) 106 [.ref 271, iV l1, iV l2, iV l3, iV l4, iV l5, iV (l6 + 1), .retAddr 0, .retAddr 0, .retAddr 0, .retAddr 0] [] u22 Q))))))))))))) : K_228 (d + 1) 142 [.ref 271, iV l1, iV l2, iV l3, iV l4, iV l5, iV l6, lV l7, .retAddr 0, iV l9, .retAddr 0] [] u Q := by
  unfold K_228
  refine u_ld (v := iV l9) (pc := 142) (dec_at lsk_228 (k := 77) rfl) rfl ?_
  refine u_ld (v := .ref 271) (pc := 144) (dec_at lsk_228 (k := 78) rfl) rfl ?_
  refine u_gS (o := 5) (p := 276) (pc := 145) (dec_at lsk_228 (k := 79) rfl) f_12_22 sx_271 rfl rfl ?_
  refine u_ld (v := iV l4) (pc := 148) (dec_at lsk_228 (k := 80) rfl) rfl ?_
  have g1 := h.1
  have h := h.2
  have g2 := h.1
  have h := h.2
  refine u_iald (pc := 150) (dec_at lsk_228 (k := 81) rfl) sx_276 g1 g2 ?_
  have g3 := h.1
  have h := h.2
  have g4 := h.1
  have h := h.2
  refine u_icF (pc := 151) (tgt := 215) (dec_at lsk_228 (k := 82) rfl) rfl (ci_ge g3 g4) (fun e5 => ?_) (fun e5 => ?_)
  · have h := ifT e5 h
    refine u_ld (v := .ref 271) (pc := 154) (dec_at lsk_228 (k := 83) rfl) rfl ?_
    refine u_gS (o := 6) (p := 277) (pc := 155) (dec_at lsk_228 (k := 84) rfl) f_12_25 sx_271 rfl rfl ?_
    refine u_c (x := 6) (pc := 158) (dec_at lsk_228 (k := 85) rfl) rfl (by decide) ?_
    refine u_ld (v := iV l4) (pc := 160) (dec_at lsk_228 (k := 86) rfl) rfl ?_
    refine u_imul (pc := 162) (dec_at lsk_228 (k := 87) rfl) ?_
    refine u_ld (v := iV l9) (pc := 163) (dec_at lsk_228 (k := 88) rfl) rfl ?_
    refine u_iadd (pc := 165) (dec_at lsk_228 (k := 89) rfl) ?_
    have g6 := h.1
    have h := h.2
    have g7 := h.1
    have h := h.2
    refine u_iald (pc := 166) (dec_at lsk_228 (k := 90) rfl) sx_277 g6 g7 ?_
    refine u_sto (lv' := [.ref 271, iV l1, iV l2, iV l3, iV l4, iV l5, iV l6, lV l7, .retAddr 0, iV l9, iV (u.1 277 ((6 * l4) + l9))]) (pc := 167) (dec_at lsk_228 (k := 91) rfl) rfl ?_
    refine u_ld (v := iV l9) (pc := 169) (dec_at lsk_228 (k := 92) rfl) rfl ?_
    refine u_ld (v := iV l6) (pc := 171) (dec_at lsk_228 (k := 93) rfl) rfl ?_
    have g8 := h.1
    have h := h.2
    refine u_icF (pc := 173) (tgt := 181) (dec_at lsk_228 (k := 94) rfl) rfl (ci_ne g3 g8) (fun e9 => ?_) (fun e9 => ?_)
    · have h := ifT e9 h
      refine u_ld (v := lV l7) (pc := 176) (dec_at lsk_228 (k := 95) rfl) rfl ?_
      refine u_goto (pc := 178) (tgt := 207) (dec_at lsk_228 (k := 96) rfl) rfl ?_
      refine u_sto (lv' := [.ref 271, iV l1, iV l2, iV l3, iV l4, iV l5, iV l6, lV l7, .retAddr 0, iV l9, iV (u.1 277 ((6 * l4) + l9))]) (pc := 207) (dec_at lsk_228 (k := 110) rfl) rfl ?_
      refine u_inc (lv' := [.ref 271, iV l1, iV l2, iV l3, iV l4, iV l5, iV l6, lV l7, .retAddr 0, iV (l9 + 1), iV (u.1 277 ((6 * l4) + l9))]) (pc := 209) (dec_at lsk_228 (k := 111) rfl) rfl (by decide) rfl ?_
      refine u_goto (pc := 212) (tgt := 142) (dec_at lsk_228 (k := 112) rfl) rfl ?_
      exact u_weak (sbK (sbK (sbK (sbK (sbK (sbK (sbK (sbK (sbK (sbK (sbD sb0))))))))))) h
    · have h := ifF e9 h
      refine u_ld (v := iV (u.1 277 ((6 * l4) + l9))) (pc := 181) (dec_at lsk_228 (k := 97) rfl) rfl ?_
      refine u_c (x := 100) (pc := 183) (dec_at lsk_228 (k := 98) rfl) rfl (by decide) ?_
      have g10 := h.1
      have h := h.2
      refine u_icF (pc := 185) (tgt := 192) (dec_at lsk_228 (k := 99) rfl) rfl (ci_ge g10 (by decide)) (fun e11 => ?_) (fun e11 => ?_)
      · have h := ifT e11 h
        refine u_cl (x := 0) (pc := 188) (dec_at lsk_228 (k := 100) rfl) rfl (by decide) ?_
        refine u_goto (pc := 189) (tgt := 207) (dec_at lsk_228 (k := 101) rfl) rfl ?_
        refine u_sto (lv' := [.ref 271, iV l1, iV l2, iV l3, iV l4, iV l5, iV l6, lV 0, .retAddr 0, iV l9, iV (u.1 277 ((6 * l4) + l9))]) (pc := 207) (dec_at lsk_228 (k := 110) rfl) rfl ?_
        refine u_inc (lv' := [.ref 271, iV l1, iV l2, iV l3, iV l4, iV l5, iV l6, lV 0, .retAddr 0, iV (l9 + 1), iV (u.1 277 ((6 * l4) + l9))]) (pc := 209) (dec_at lsk_228 (k := 111) rfl) rfl (by decide) rfl ?_
        refine u_goto (pc := 212) (tgt := 142) (dec_at lsk_228 (k := 112) rfl) rfl ?_
        exact u_weak (sbK (sbK (sbK (sbK (sbK (sbK (sbK (sbK (sbK (sbK (sbD sb0))))))))))) h
      · have h := ifF e11 h
        refine u_ld (v := lV l7) (pc := 192) (dec_at lsk_228 (k := 102) rfl) rfl ?_
        refine u_ld (v := .ref 271) (pc := 194) (dec_at lsk_228 (k := 103) rfl) rfl ?_
        refine u_gS (o := 21) (p := 292) (pc := 195) (dec_at lsk_228 (k := 104) rfl) f_12_72 sx_271 rfl rfl ?_
        refine u_ld (v := iV (u.1 277 ((6 * l4) + l9))) (pc := 198) (dec_at lsk_228 (k := 105) rfl) rfl ?_
        refine u_c (x := 100) (pc := 200) (dec_at lsk_228 (k := 106) rfl) rfl (by decide) ?_
        refine u_isub (pc := 202) (dec_at lsk_228 (k := 107) rfl) ?_
        have g12 := h.1
        have h := h.2
        have g13 := h.1
        have h := h.2
        refine u_lald (pc := 203) (dec_at lsk_228 (k := 108) rfl) sx_292 g12 g13 ?_
        have g14 := h.1
        have h := h.2
        have g15 := h.1
        have h := h.2
        refine u_csL (As := [lV l7, lV (u.1 292 ((u.1 277 ((6 * l4) + l9)) - 100))]) (st2 := []) (pc := 204) (dec_at lsk_228 (k := 109) rfl) m_12_345 (Or.inl rfl) rfl (Nat.le_of_ble_eq_true rfl) (p_227 g14 g15) (fun r_ u_ h_ => ?_)
        rw [h_.1, h_.2]
        refine u_sto (lv' := [.ref 271, iV l1, iV l2, iV l3, iV l4, iV l5, iV l6, lV (tm 5000000000000000000 l7 (u.1 292 ((u.1 277 ((6 * l4) + l9)) - 100))), .retAddr 0, iV l9, iV (u.1 277 ((6 * l4) + l9))]) (pc := 207) (dec_at lsk_228 (k := 110) rfl) rfl ?_
        refine u_inc (lv' := [.ref 271, iV l1, iV l2, iV l3, iV l4, iV l5, iV l6, lV (tm 5000000000000000000 l7 (u.1 292 ((u.1 277 ((6 * l4) + l9)) - 100))), .retAddr 0, iV (l9 + 1), iV (u.1 277 ((6 * l4) + l9))]) (pc := 209) (dec_at lsk_228 (k := 111) rfl) rfl (by decide) rfl ?_
        refine u_goto (pc := 212) (tgt := 142) (dec_at lsk_228 (k := 112) rfl) rfl ?_
        exact u_weak (sbK (sbK (sbK (sbK (sbK (sbK (sbK (sbK (sbK (sbK (sbD sb0))))))))))) h
  · have h := ifF e5 h
    refine u_c (x := 10) (pc := 215) (dec_at lsk_228 (k := 113) rfl) rfl (by decide) ?_
    refine u_ld (v := iV l5) (pc := 217) (dec_at lsk_228 (k := 114) rfl) rfl ?_
    refine u_imul (pc := 219) (dec_at lsk_228 (k := 115) rfl) ?_
    refine u_ld (v := .ref 271) (pc := 220) (dec_at lsk_228 (k := 116) rfl) rfl ?_
    refine u_gS (o := 6) (p := 277) (pc := 221) (dec_at lsk_228 (k := 117) rfl) f_12_25 sx_271 rfl rfl ?_
    refine u_c (x := 6) (pc := 224) (dec_at lsk_228 (k := 118) rfl) rfl (by decide) ?_
    refine u_ld (v := iV l4) (pc := 226) (dec_at lsk_228 (k := 119) rfl) rfl ?_
    refine u_imul (pc := 228) (dec_at lsk_228 (k := 120) rfl) ?_
    refine u_ld (v := iV l6) (pc := 229) (dec_at lsk_228 (k := 121) rfl) rfl ?_
    refine u_iadd (pc := 231) (dec_at lsk_228 (k := 122) rfl) ?_
    have g16 := h.1
    have h := h.2
    have g17 := h.1
    have h := h.2
    refine u_iald (pc := 232) (dec_at lsk_228 (k := 123) rfl) sx_277 g16 g17 ?_
    refine u_iadd (pc := 233) (dec_at lsk_228 (k := 124) rfl) ?_
    refine u_c (x := 100) (pc := 234) (dec_at lsk_228 (k := 125) rfl) rfl (by decide) ?_
    refine u_isub (pc := 236) (dec_at lsk_228 (k := 126) rfl) ?_
    refine u_sto (lv' := [.ref 271, iV l1, iV l2, iV l3, iV l4, iV l5, iV l6, lV l7, .retAddr 0, iV (((10 * l5) + (u.1 277 ((6 * l4) + l6))) - 100), .retAddr 0]) (pc := 237) (dec_at lsk_228 (k := 127) rfl) rfl ?_
    refine u_ld (v := .ref 271) (pc := 239) (dec_at lsk_228 (k := 128) rfl) rfl ?_
    refine u_gS (o := 27) (p := 298) (pc := 240) (dec_at lsk_228 (k := 129) rfl) f_12_90 sx_271 rfl rfl ?_
    refine u_ld (v := iV (((10 * l5) + (u.1 277 ((6 * l4) + l6))) - 100)) (pc := 243) (dec_at lsk_228 (k := 130) rfl) rfl ?_
    refine u_ld (v := .ref 271) (pc := 245) (dec_at lsk_228 (k := 131) rfl) rfl ?_
    refine u_gS (o := 27) (p := 298) (pc := 246) (dec_at lsk_228 (k := 132) rfl) f_12_90 sx_271 rfl rfl ?_
    refine u_ld (v := iV (((10 * l5) + (u.1 277 ((6 * l4) + l6))) - 100)) (pc := 249) (dec_at lsk_228 (k := 133) rfl) rfl ?_
    have g18 := h.1
    have h := h.2
    have g19 := h.1
    have h := h.2
    refine u_lald (pc := 251) (dec_at lsk_228 (k := 134) rfl) sx_298 g18 g19 ?_
    refine u_ld (v := lV l7) (pc := 252) (dec_at lsk_228 (k := 135) rfl) rfl ?_
    have g20 := h.1
    have h := h.2
    have g21 := h.1
    have h := h.2
    refine u_csL (As := [lV (u.1 298 (((10 * l5) + (u.1 277 ((6 * l4) + l6))) - 100)), lV l7]) (st2 := [iV (((10 * l5) + (u.1 277 ((6 * l4) + l6))) - 100), .ref 298]) (pc := 254) (dec_at lsk_228 (k := 136) rfl) m_12_323 (Or.inl rfl) rfl (Nat.le_of_ble_eq_true rfl) (p_217 g20 g21) (fun r_ u_ h_ => ?_)
    rw [h_.1, h_.2]
    refine u_last (pc := 257) (dec_at lsk_228 (k := 137) rfl) sx_298 g18 g19 (fun u22 e23 => ?_)
    have h := h u22 e23
    refine u_inc (lv' := [.ref 271, iV l1, iV l2, iV l3, iV l4, iV l5, iV (l6 + 1), lV l7, .retAddr 0, iV (((10 * l5) + (u.1 277 ((6 * l4) + l6))) - 100), .retAddr 0]) (pc := 258) (dec_at lsk_228 (k := 138) rfl) rfl (by decide) rfl ?_
    refine u_goto (pc := 261) (tgt := 106) (dec_at lsk_228 (k := 139) rfl) rfl ?_
    exact u_weak (sbK (sbK (sbK (sbK (sbK (sbK (sbK (sbD (sbK (sbD (sbK sb0))))))))))) h
theorem k_228_273 {d : Nat} {Q : uS → Prop} {u : uS} {l1 l2 l3 l4 : Int} (h : (rI l4) ∧ (if l4 = 0 then (cV (d + 1) 232 [.ref 271, iV l1, iV l2, iV l3] u (fun u3 => Q u3)) else (K_228 (d + 1) 284 [.ref 271, iV l1, iV l2, iV l3, iV 0, iV 0, .retAddr 0, .retAddr 0, .retAddr 0, .retAddr 0, .retAddr 0] [] u Q))) : K_228 (d + 1) 273 [.ref 271, iV l1, iV l2, iV l3, iV l4, .retAddr 0, .retAddr 0, .retAddr 0, .retAddr 0, .retAddr 0, .retAddr 0] [] u Q := by
  unfold K_228
  refine u_ld (v := iV l4) (pc := 273) (dec_at lsk_228 (k := 144) rfl) rfl ?_
  have g1 := h.1
  have h := h.2
  refine u_ifT (pc := 275) (tgt := 433) (dec_at lsk_228 (k := 145) rfl) rfl (c0_eq g1) (fun e2 => ?_) (fun e2 => ?_)
  · have h := ifT e2 h
    refine u_ld (v := .ref 271) (pc := 433) (dec_at lsk_228 (k := 225) rfl) rfl ?_
    refine u_ld (v := iV l1) (pc := 434) (dec_at lsk_228 (k := 226) rfl) rfl ?_
    refine u_ld (v := iV l2) (pc := 435) (dec_at lsk_228 (k := 227) rfl) rfl ?_
    refine u_ld (v := iV l3) (pc := 436) (dec_at lsk_228 (k := 228) rfl) rfl ?_
    refine u_cvV (As := [iV l1, iV l2, iV l3]) (rb := 271) (st2 := []) (pc := 437) (dec_at lsk_228 (k := 229) rfl) m_12_359 (Or.inl rfl) rfl (Nat.le_of_ble_eq_true rfl) sx_271 me_232 rfl h (fun u3 h => ?_)
    exact u_rV (pc := 440) (dec_at lsk_228 (k := 230) rfl) rfl h
  · have h := ifF e2 h
    refine u_ld (v := iV 0) (pc := 278) (dec_at lsk_228 (k := 146) rfl) rfl ?_
    refine u_sto (lv' := [.ref 271, iV l1, iV l2, iV l3, iV 0, .retAddr 0, .retAddr 0, .retAddr 0, .retAddr 0, .retAddr 0, .retAddr 0]) (pc := 279) (dec_at lsk_228 (k := 147) rfl) rfl ?_
    refine u_ld (v := iV 0) (pc := 281) (dec_at lsk_228 (k := 148) rfl) rfl ?_
    refine u_sto (lv' := [.ref 271, iV l1, iV l2, iV l3, iV 0, iV 0, .retAddr 0, .retAddr 0, .retAddr 0, .retAddr 0, .retAddr 0]) (pc := 282) (dec_at lsk_228 (k := 149) rfl) rfl ?_
    exact h
theorem k_228_284 {d : Nat} {Q : uS → Prop} {u : uS} {l1 l2 l3 l4 l5 : Int} (h : (rI l5) ∧ ((rI (u.1 271 5)) ∧ (if l5 < u.1 271 5 then ((0 ≤ l5) ∧ ((l5 < 10) ∧ ((rL (u.1 299 l5)) ∧ (if 0 < u.1 299 l5 then (K_228 (d + 1) 315 [.ref 271, iV l1, iV l2, iV l3, iV l4, iV l5, iV 1, iV 0, .retAddr 0, .retAddr 0, .retAddr 0] [] u Q) else (K_228 (d + 1) 315 [.ref 271, iV l1, iV l2, iV l3, iV l4, iV l5, iV 0, iV 0, .retAddr 0, .retAddr 0, .retAddr 0] [] u Q))))) else (K_228 (d + 1) 273 [.ref 271, iV l1, iV l2, iV l3, iV l4, .retAddr 0, .retAddr 0, .retAddr 0, .retAddr 0, .retAddr 0, .retAddr 0] [] u Q)))) : K_228 (d + 1) 284 [.ref 271, iV l1, iV l2, iV l3, iV l4, iV l5, .retAddr 0, .retAddr 0, .retAddr 0, .retAddr 0, .retAddr 0] [] u Q := by
  unfold K_228
  refine u_ld (v := iV l5) (pc := 284) (dec_at lsk_228 (k := 150) rfl) rfl ?_
  refine u_ld (v := .ref 271) (pc := 286) (dec_at lsk_228 (k := 151) rfl) rfl ?_
  refine u_gI (z := 5) (pc := 287) (dec_at lsk_228 (k := 152) rfl) f_12_303 sx_271 rfl rfl ?_
  have g1 := h.1
  have h := h.2
  have g2 := h.1
  have h := h.2
  refine u_icF (pc := 290) (tgt := 430) (dec_at lsk_228 (k := 153) rfl) rfl (ci_ge g1 g2) (fun e3 => ?_) (fun e3 => ?_)
  · have h := ifT e3 h
    refine u_ld (v := .ref 271) (pc := 293) (dec_at lsk_228 (k := 154) rfl) rfl ?_
    refine u_gS (o := 28) (p := 299) (pc := 294) (dec_at lsk_228 (k := 155) rfl) f_12_93 sx_271 rfl rfl ?_
    refine u_ld (v := iV l5) (pc := 297) (dec_at lsk_228 (k := 156) rfl) rfl ?_
    have g4 := h.1
    have h := h.2
    have g5 := h.1
    have h := h.2
    refine u_lald (pc := 299) (dec_at lsk_228 (k := 157) rfl) sx_299 g4 g5 ?_
    refine u_cl (x := 0) (pc := 300) (dec_at lsk_228 (k := 158) rfl) rfl (by decide) ?_
    refine u_st (st' := [.int (lg_cmp (Int64.ofInt (u.1 299 l5)) (Int64.ofInt 0))]) (pc := 301) (dec_at lsk_228 (k := 159) rfl) rfl ?_
    have g6 := h.1
    have h := h.2
    refine u_ifF (pc := 302) (tgt := 309) (dec_at lsk_228 (k := 160) rfl) rfl (cl_le g6 (by decide)) (fun e7 => ?_) (fun e7 => ?_)
    · have h := ifT e7 h
      refine u_ld (v := iV 1) (pc := 305) (dec_at lsk_228 (k := 161) rfl) rfl ?_
      refine u_goto (pc := 306) (tgt := 310) (dec_at lsk_228 (k := 162) rfl) rfl ?_
      refine u_sto (lv' := [.ref 271, iV l1, iV l2, iV l3, iV l4, iV l5, iV 1, .retAddr 0, .retAddr 0, .retAddr 0, .retAddr 0]) (pc := 310) (dec_at lsk_228 (k := 164) rfl) rfl ?_
      refine u_ld (v := iV 0) (pc := 312) (dec_at lsk_228 (k := 165) rfl) rfl ?_
      refine u_sto (lv' := [.ref 271, iV l1, iV l2, iV l3, iV l4, iV l5, iV 1, iV 0, .retAddr 0, .retAddr 0, .retAddr 0]) (pc := 313) (dec_at lsk_228 (k := 166) rfl) rfl ?_
      exact h
    · have h := ifF e7 h
      refine u_ld (v := iV 0) (pc := 309) (dec_at lsk_228 (k := 163) rfl) rfl ?_
      refine u_sto (lv' := [.ref 271, iV l1, iV l2, iV l3, iV l4, iV l5, iV 0, .retAddr 0, .retAddr 0, .retAddr 0, .retAddr 0]) (pc := 310) (dec_at lsk_228 (k := 164) rfl) rfl ?_
      refine u_ld (v := iV 0) (pc := 312) (dec_at lsk_228 (k := 165) rfl) rfl ?_
      refine u_sto (lv' := [.ref 271, iV l1, iV l2, iV l3, iV l4, iV l5, iV 0, iV 0, .retAddr 0, .retAddr 0, .retAddr 0]) (pc := 313) (dec_at lsk_228 (k := 166) rfl) rfl ?_
      exact h
  · have h := ifF e3 h
    refine u_goto (pc := 430) (tgt := 273) (dec_at lsk_228 (k := 224) rfl) rfl ?_
    exact u_weak (sbK (sbK (sbK (sbK (sbK (sbD (sbK (sbK (sbK (sbK (sbK sb0))))))))))) h
theorem k_228_315 {d : Nat} {Q : uS → Prop} {u : uS} {l1 l2 l3 l4 l5 l6 l7 : Int} (h : (rI l7) ∧ ((rI (u.1 271 5)) ∧ (if l7 < u.1 271 5 then ((rI l6) ∧ (if l6 = 0 then ((0 ≤ (10 * l5) + l7) ∧ (((10 * l5) + l7 < 100) ∧ ((rL (u.1 298 ((10 * l5) + l7))) ∧ (if 0 < u.1 298 ((10 * l5) + l7) then ((0 ≤ l7) ∧ ((l7 < 10) ∧ ((rI (u.1 300 l7)) ∧ (if u.1 300 l7 = 0 then (K_228 (d + 1) 315 [.ref 271, iV l1, iV l2, iV l3, iV l4, iV l5, iV 0, iV (l7 + 1), .retAddr 0, .retAddr 0, .retAddr 0] [] u Q) else (K_228 (d + 1) 315 [.ref 271, iV l1, iV l2, iV l3, iV l4, iV l5, iV 1, iV (l7 + 1), .retAddr 0, .retAddr 0, .retAddr 0] [] u Q))))) else (K_228 (d + 1) 315 [.ref 271, iV l1, iV l2, iV l3, iV l4, iV l5, iV 0, iV (l7 + 1), .retAddr 0, .retAddr 0, .retAddr 0] [] u Q))))) else (K_228 (d + 1) 315 [.ref 271, iV l1, iV l2, iV l3, iV l4, iV l5, iV 1, iV (l7 + 1), .retAddr 0, .retAddr 0, .retAddr 0] [] u Q))) else ((rI l4) ∧ (if l4 = 0 then ((rI l6) ∧ (if l6 = 0 then ((0 ≤ l5) ∧ ((l5 < 10) ∧ ((rI (u.1 300 l5)) ∧ (if u.1 300 l5 = 0 then (∀ u23 : uS, u23 = wr u 300 l5 0 → (K_228 (d + 1) 284 [.ref 271, iV l1, iV l2, iV l3, iV 0, iV (l5 + 1), .retAddr 0, .retAddr 0, .retAddr 0, .retAddr 0, .retAddr 0] [] u23 Q)) else (∀ u25 : uS, u25 = wr u 300 l5 1 → (K_228 (d + 1) 284 [.ref 271, iV l1, iV l2, iV l3, iV 0, iV (l5 + 1), .retAddr 0, .retAddr 0, .retAddr 0, .retAddr 0, .retAddr 0] [] u25 Q)))))) else ((0 ≤ l5) ∧ ((l5 < 10) ∧ ((rI (u.1 300 l5)) ∧ (if u.1 300 l5 = 0 then (∀ u33 : uS, u33 = wr u 300 l5 1 → (K_228 (d + 1) 284 [.ref 271, iV l1, iV l2, iV l3, iV 1, iV (l5 + 1), .retAddr 0, .retAddr 0, .retAddr 0, .retAddr 0, .retAddr 0] [] u33 Q)) else (∀ u36 : uS, u36 = wr u 300 l5 1 → (K_228 (d + 1) 284 [.ref 271, iV l1, iV l2, iV l3, iV 0, iV (l5 + 1), .retAddr 0, .retAddr 0, .retAddr 0, .retAddr 0, .retAddr 0] [] u36 Q)))))))) else ((0 ≤ l5) ∧ ((l5 < 10) ∧ ((rI (u.1 300 l5)) ∧ (if u.1 300 l5 = 0 then ((rI l6) ∧ (if l6 = 0 then (∀ u44 : uS, u44 = wr u 300 l5 0 → (K_228 (d + 1) 284 [.ref 271, iV l1, iV l2, iV l3, iV 1, iV (l5 + 1), .retAddr 0, .retAddr 0, .retAddr 0, .retAddr 0, .retAddr 0] [] u44 Q)) else (∀ u46 : uS, u46 = wr u 300 l5 1 → (K_228 (d + 1) 284 [.ref 271, iV l1, iV l2, iV l3, iV 1, iV (l5 + 1), .retAddr 0, .retAddr 0, .retAddr 0, .retAddr 0, .retAddr 0] [] u46 Q)))) else (∀ u48 : uS, u48 = wr u 300 l5 1 → (K_228 (d + 1) 284 [.ref 271, iV l1, iV l2, iV l3, iV 1, iV (l5 + 1), .retAddr 0, .retAddr 0, .retAddr 0, .retAddr 0, .retAddr 0] [] u48 Q))))))))))) : K_228 (d + 1) 315 [.ref 271, iV l1, iV l2, iV l3, iV l4, iV l5, iV l6, iV l7, .retAddr 0, .retAddr 0, .retAddr 0] [] u Q := by
  unfold K_228
  refine u_ld (v := iV l7) (pc := 315) (dec_at lsk_228 (k := 167) rfl) rfl ?_
  refine u_ld (v := .ref 271) (pc := 317) (dec_at lsk_228 (k := 168) rfl) rfl ?_
  refine u_gI (z := 5) (pc := 318) (dec_at lsk_228 (k := 169) rfl) f_12_303 sx_271 rfl rfl ?_
  have g1 := h.1
  have h := h.2
  have g2 := h.1
  have h := h.2
  refine u_icF (pc := 321) (tgt := 370) (dec_at lsk_228 (k := 170) rfl) rfl (ci_ge g1 g2) (fun e3 => ?_) (fun e3 => ?_)
  · have h := ifT e3 h
    refine u_ld (v := iV l6) (pc := 324) (dec_at lsk_228 (k := 171) rfl) rfl ?_
    have g4 := h.1
    have h := h.2
    refine u_ifF (pc := 326) (tgt := 357) (dec_at lsk_228 (k := 172) rfl) rfl (c0_ne g4) (fun e5 => ?_) (fun e5 => ?_)
    · have h := ifT e5 h
      refine u_ld (v := .ref 271) (pc := 329) (dec_at lsk_228 (k := 173) rfl) rfl ?_
      refine u_gS (o := 27) (p := 298) (pc := 330) (dec_at lsk_228 (k := 174) rfl) f_12_90 sx_271 rfl rfl ?_
      refine u_c (x := 10) (pc := 333) (dec_at lsk_228 (k := 175) rfl) rfl (by decide) ?_
      refine u_ld (v := iV l5) (pc := 335) (dec_at lsk_228 (k := 176) rfl) rfl ?_
      refine u_imul (pc := 337) (dec_at lsk_228 (k := 177) rfl) ?_
      refine u_ld (v := iV l7) (pc := 338) (dec_at lsk_228 (k := 178) rfl) rfl ?_
      refine u_iadd (pc := 340) (dec_at lsk_228 (k := 179) rfl) ?_
      have g6 := h.1
      have h := h.2
      have g7 := h.1
      have h := h.2
      refine u_lald (pc := 341) (dec_at lsk_228 (k := 180) rfl) sx_298 g6 g7 ?_
      refine u_cl (x := 0) (pc := 342) (dec_at lsk_228 (k := 181) rfl) rfl (by decide) ?_
      refine u_st (st' := [.int (lg_cmp (Int64.ofInt (u.1 298 ((10 * l5) + l7))) (Int64.ofInt 0))]) (pc := 343) (dec_at lsk_228 (k := 182) rfl) rfl ?_
      have g8 := h.1
      have h := h.2
      refine u_ifF (pc := 344) (tgt := 361) (dec_at lsk_228 (k := 183) rfl) rfl (cl_le g8 (by decide)) (fun e9 => ?_) (fun e9 => ?_)
      · have h := ifT e9 h
        refine u_ld (v := .ref 271) (pc := 347) (dec_at lsk_228 (k := 184) rfl) rfl ?_
        refine u_gS (o := 29) (p := 300) (pc := 348) (dec_at lsk_228 (k := 185) rfl) f_12_96 sx_271 rfl rfl ?_
        refine u_ld (v := iV l7) (pc := 351) (dec_at lsk_228 (k := 186) rfl) rfl ?_
        have g10 := h.1
        have h := h.2
        have g11 := h.1
        have h := h.2
        refine u_zald (pc := 353) (dec_at lsk_228 (k := 187) rfl) sx_300 g10 g11 ?_
        have g12 := h.1
        have h := h.2
        refine u_ifT (pc := 354) (tgt := 361) (dec_at lsk_228 (k := 188) rfl) rfl (c0_eq g12) (fun e13 => ?_) (fun e13 => ?_)
        · have h := ifT e13 h
          refine u_ld (v := iV 0) (pc := 361) (dec_at lsk_228 (k := 191) rfl) rfl ?_
          refine u_sto (lv' := [.ref 271, iV l1, iV l2, iV l3, iV l4, iV l5, iV 0, iV l7, .retAddr 0, .retAddr 0, .retAddr 0]) (pc := 362) (dec_at lsk_228 (k := 192) rfl) rfl ?_
          refine u_inc (lv' := [.ref 271, iV l1, iV l2, iV l3, iV l4, iV l5, iV 0, iV (l7 + 1), .retAddr 0, .retAddr 0, .retAddr 0]) (pc := 364) (dec_at lsk_228 (k := 193) rfl) rfl (by decide) rfl ?_
          refine u_goto (pc := 367) (tgt := 315) (dec_at lsk_228 (k := 194) rfl) rfl ?_
          exact h
        · have h := ifF e13 h
          refine u_ld (v := iV 1) (pc := 357) (dec_at lsk_228 (k := 189) rfl) rfl ?_
          refine u_goto (pc := 358) (tgt := 362) (dec_at lsk_228 (k := 190) rfl) rfl ?_
          refine u_sto (lv' := [.ref 271, iV l1, iV l2, iV l3, iV l4, iV l5, iV 1, iV l7, .retAddr 0, .retAddr 0, .retAddr 0]) (pc := 362) (dec_at lsk_228 (k := 192) rfl) rfl ?_
          refine u_inc (lv' := [.ref 271, iV l1, iV l2, iV l3, iV l4, iV l5, iV 1, iV (l7 + 1), .retAddr 0, .retAddr 0, .retAddr 0]) (pc := 364) (dec_at lsk_228 (k := 193) rfl) rfl (by decide) rfl ?_
          refine u_goto (pc := 367) (tgt := 315) (dec_at lsk_228 (k := 194) rfl) rfl ?_
          exact h
      · have h := ifF e9 h
        refine u_ld (v := iV 0) (pc := 361) (dec_at lsk_228 (k := 191) rfl) rfl ?_
        refine u_sto (lv' := [.ref 271, iV l1, iV l2, iV l3, iV l4, iV l5, iV 0, iV l7, .retAddr 0, .retAddr 0, .retAddr 0]) (pc := 362) (dec_at lsk_228 (k := 192) rfl) rfl ?_
        refine u_inc (lv' := [.ref 271, iV l1, iV l2, iV l3, iV l4, iV l5, iV 0, iV (l7 + 1), .retAddr 0, .retAddr 0, .retAddr 0]) (pc := 364) (dec_at lsk_228 (k := 193) rfl) rfl (by decide) rfl ?_
        refine u_goto (pc := 367) (tgt := 315) (dec_at lsk_228 (k := 194) rfl) rfl ?_
        exact h
    · have h := ifF e5 h
      refine u_ld (v := iV 1) (pc := 357) (dec_at lsk_228 (k := 189) rfl) rfl ?_
      refine u_goto (pc := 358) (tgt := 362) (dec_at lsk_228 (k := 190) rfl) rfl ?_
      refine u_sto (lv' := [.ref 271, iV l1, iV l2, iV l3, iV l4, iV l5, iV 1, iV l7, .retAddr 0, .retAddr 0, .retAddr 0]) (pc := 362) (dec_at lsk_228 (k := 192) rfl) rfl ?_
      refine u_inc (lv' := [.ref 271, iV l1, iV l2, iV l3, iV l4, iV l5, iV 1, iV (l7 + 1), .retAddr 0, .retAddr 0, .retAddr 0]) (pc := 364) (dec_at lsk_228 (k := 193) rfl) rfl (by decide) rfl ?_
      refine u_goto (pc := 367) (tgt := 315) (dec_at lsk_228 (k := 194) rfl) rfl ?_
      exact h
  · have h := ifF e3 h
    refine u_ld (v := iV l4) (pc := 370) (dec_at lsk_228 (k := 195) rfl) rfl ?_
    have g14 := h.1
    have h := h.2
    refine u_ifF (pc := 372) (tgt := 390) (dec_at lsk_228 (k := 196) rfl) rfl (c0_ne g14) (fun e15 => ?_) (fun e15 => ?_)
    · have h := ifT e15 h
      refine u_ld (v := iV l6) (pc := 375) (dec_at lsk_228 (k := 197) rfl) rfl ?_
      have g16 := h.1
      have h := h.2
      refine u_ifT (pc := 377) (tgt := 394) (dec_at lsk_228 (k := 198) rfl) rfl (c0_eq g16) (fun e17 => ?_) (fun e17 => ?_)
      · have h := ifT e17 h
        refine u_ld (v := iV 0) (pc := 394) (dec_at lsk_228 (k := 206) rfl) rfl ?_
        refine u_sto (lv' := [.ref 271, iV l1, iV l2, iV l3, iV 0, iV l5, iV l6, iV l7, .retAddr 0, .retAddr 0, .retAddr 0]) (pc := 395) (dec_at lsk_228 (k := 207) rfl) rfl ?_
        refine u_ld (v := .ref 271) (pc := 397) (dec_at lsk_228 (k := 208) rfl) rfl ?_
        refine u_gS (o := 29) (p := 300) (pc := 398) (dec_at lsk_228 (k := 209) rfl) f_12_96 sx_271 rfl rfl ?_
        refine u_ld (v := iV l5) (pc := 401) (dec_at lsk_228 (k := 210) rfl) rfl ?_
        refine u_ld (v := .ref 271) (pc := 403) (dec_at lsk_228 (k := 211) rfl) rfl ?_
        refine u_gS (o := 29) (p := 300) (pc := 404) (dec_at lsk_228 (k := 212) rfl) f_12_96 sx_271 rfl rfl ?_
        refine u_ld (v := iV l5) (pc := 407) (dec_at lsk_228 (k := 213) rfl) rfl ?_
        have g18 := h.1
        have h := h.2
        have g19 := h.1
        have h := h.2
        refine u_zald (pc := 409) (dec_at lsk_228 (k := 214) rfl) sx_300 g18 g19 ?_
        have g20 := h.1
        have h := h.2
        refine u_ifF (pc := 410) (tgt := 418) (dec_at lsk_228 (k := 215) rfl) rfl (c0_ne g20) (fun e21 => ?_) (fun e21 => ?_)
        · have h := ifT e21 h
          refine u_ld (v := iV l6) (pc := 413) (dec_at lsk_228 (k := 216) rfl) rfl ?_
          refine u_ifT (pc := 415) (tgt := 422) (dec_at lsk_228 (k := 217) rfl) rfl (c0_eq g16) (fun _ => ?_) (fun e22 => absurd e17 e22)
          refine u_ld (v := iV 0) (pc := 422) (dec_at lsk_228 (k := 220) rfl) rfl ?_
          refine u_zast (pc := 423) (dec_at lsk_228 (k := 221) rfl) sx_300 g18 g19 (by decide) (fun u23 e24 => ?_)
          have h := h u23 e24
          refine u_inc (lv' := [.ref 271, iV l1, iV l2, iV l3, iV 0, iV (l5 + 1), iV l6, iV l7, .retAddr 0, .retAddr 0, .retAddr 0]) (pc := 424) (dec_at lsk_228 (k := 222) rfl) rfl (by decide) rfl ?_
          refine u_goto (pc := 427) (tgt := 284) (dec_at lsk_228 (k := 223) rfl) rfl ?_
          exact u_weak (sbK (sbK (sbK (sbK (sbK (sbK (sbD (sbD (sbK (sbK (sbK sb0))))))))))) h
        · have h := ifF e21 h
          refine u_ld (v := iV 1) (pc := 418) (dec_at lsk_228 (k := 218) rfl) rfl ?_
          refine u_goto (pc := 419) (tgt := 423) (dec_at lsk_228 (k := 219) rfl) rfl ?_
          refine u_zast (pc := 423) (dec_at lsk_228 (k := 221) rfl) sx_300 g18 g19 (by decide) (fun u25 e26 => ?_)
          have h := h u25 e26
          refine u_inc (lv' := [.ref 271, iV l1, iV l2, iV l3, iV 0, iV (l5 + 1), iV l6, iV l7, .retAddr 0, .retAddr 0, .retAddr 0]) (pc := 424) (dec_at lsk_228 (k := 222) rfl) rfl (by decide) rfl ?_
          refine u_goto (pc := 427) (tgt := 284) (dec_at lsk_228 (k := 223) rfl) rfl ?_
          exact u_weak (sbK (sbK (sbK (sbK (sbK (sbK (sbD (sbD (sbK (sbK (sbK sb0))))))))))) h
      · have h := ifF e17 h
        refine u_ld (v := .ref 271) (pc := 380) (dec_at lsk_228 (k := 199) rfl) rfl ?_
        refine u_gS (o := 29) (p := 300) (pc := 381) (dec_at lsk_228 (k := 200) rfl) f_12_96 sx_271 rfl rfl ?_
        refine u_ld (v := iV l5) (pc := 384) (dec_at lsk_228 (k := 201) rfl) rfl ?_
        have g27 := h.1
        have h := h.2
        have g28 := h.1
        have h := h.2
        refine u_zald (pc := 386) (dec_at lsk_228 (k := 202) rfl) sx_300 g27 g28 ?_
        have g29 := h.1
        have h := h.2
        refine u_ifF (pc := 387) (tgt := 394) (dec_at lsk_228 (k := 203) rfl) rfl (c0_ne g29) (fun e30 => ?_) (fun e30 => ?_)
        · have h := ifT e30 h
          refine u_ld (v := iV 1) (pc := 390) (dec_at lsk_228 (k := 204) rfl) rfl ?_
          refine u_goto (pc := 391) (tgt := 395) (dec_at lsk_228 (k := 205) rfl) rfl ?_
          refine u_sto (lv' := [.ref 271, iV l1, iV l2, iV l3, iV 1, iV l5, iV l6, iV l7, .retAddr 0, .retAddr 0, .retAddr 0]) (pc := 395) (dec_at lsk_228 (k := 207) rfl) rfl ?_
          refine u_ld (v := .ref 271) (pc := 397) (dec_at lsk_228 (k := 208) rfl) rfl ?_
          refine u_gS (o := 29) (p := 300) (pc := 398) (dec_at lsk_228 (k := 209) rfl) f_12_96 sx_271 rfl rfl ?_
          refine u_ld (v := iV l5) (pc := 401) (dec_at lsk_228 (k := 210) rfl) rfl ?_
          refine u_ld (v := .ref 271) (pc := 403) (dec_at lsk_228 (k := 211) rfl) rfl ?_
          refine u_gS (o := 29) (p := 300) (pc := 404) (dec_at lsk_228 (k := 212) rfl) f_12_96 sx_271 rfl rfl ?_
          refine u_ld (v := iV l5) (pc := 407) (dec_at lsk_228 (k := 213) rfl) rfl ?_
          refine u_zald (pc := 409) (dec_at lsk_228 (k := 214) rfl) sx_300 g27 g28 ?_
          refine u_ifF (pc := 410) (tgt := 418) (dec_at lsk_228 (k := 215) rfl) rfl (c0_ne g29) (fun _ => ?_) (fun e31 => absurd e30 e31)
          refine u_ld (v := iV l6) (pc := 413) (dec_at lsk_228 (k := 216) rfl) rfl ?_
          refine u_ifT (pc := 415) (tgt := 422) (dec_at lsk_228 (k := 217) rfl) rfl (c0_eq g16) (fun e32 => absurd e32 e17) (fun _ => ?_)
          refine u_ld (v := iV 1) (pc := 418) (dec_at lsk_228 (k := 218) rfl) rfl ?_
          refine u_goto (pc := 419) (tgt := 423) (dec_at lsk_228 (k := 219) rfl) rfl ?_
          refine u_zast (pc := 423) (dec_at lsk_228 (k := 221) rfl) sx_300 g27 g28 (by decide) (fun u33 e34 => ?_)
          have h := h u33 e34
          refine u_inc (lv' := [.ref 271, iV l1, iV l2, iV l3, iV 1, iV (l5 + 1), iV l6, iV l7, .retAddr 0, .retAddr 0, .retAddr 0]) (pc := 424) (dec_at lsk_228 (k := 222) rfl) rfl (by decide) rfl ?_
          refine u_goto (pc := 427) (tgt := 284) (dec_at lsk_228 (k := 223) rfl) rfl ?_
          exact u_weak (sbK (sbK (sbK (sbK (sbK (sbK (sbD (sbD (sbK (sbK (sbK sb0))))))))))) h
        · have h := ifF e30 h
          refine u_ld (v := iV 0) (pc := 394) (dec_at lsk_228 (k := 206) rfl) rfl ?_
          refine u_sto (lv' := [.ref 271, iV l1, iV l2, iV l3, iV 0, iV l5, iV l6, iV l7, .retAddr 0, .retAddr 0, .retAddr 0]) (pc := 395) (dec_at lsk_228 (k := 207) rfl) rfl ?_
          refine u_ld (v := .ref 271) (pc := 397) (dec_at lsk_228 (k := 208) rfl) rfl ?_
          refine u_gS (o := 29) (p := 300) (pc := 398) (dec_at lsk_228 (k := 209) rfl) f_12_96 sx_271 rfl rfl ?_
          refine u_ld (v := iV l5) (pc := 401) (dec_at lsk_228 (k := 210) rfl) rfl ?_
          refine u_ld (v := .ref 271) (pc := 403) (dec_at lsk_228 (k := 211) rfl) rfl ?_
          refine u_gS (o := 29) (p := 300) (pc := 404) (dec_at lsk_228 (k := 212) rfl) f_12_96 sx_271 rfl rfl ?_
          refine u_ld (v := iV l5) (pc := 407) (dec_at lsk_228 (k := 213) rfl) rfl ?_
          refine u_zald (pc := 409) (dec_at lsk_228 (k := 214) rfl) sx_300 g27 g28 ?_
          refine u_ifF (pc := 410) (tgt := 418) (dec_at lsk_228 (k := 215) rfl) rfl (c0_ne g29) (fun e35 => absurd e35 e30) (fun _ => ?_)
          refine u_ld (v := iV 1) (pc := 418) (dec_at lsk_228 (k := 218) rfl) rfl ?_
          refine u_goto (pc := 419) (tgt := 423) (dec_at lsk_228 (k := 219) rfl) rfl ?_
          refine u_zast (pc := 423) (dec_at lsk_228 (k := 221) rfl) sx_300 g27 g28 (by decide) (fun u36 e37 => ?_)
          have h := h u36 e37
          refine u_inc (lv' := [.ref 271, iV l1, iV l2, iV l3, iV 0, iV (l5 + 1), iV l6, iV l7, .retAddr 0, .retAddr 0, .retAddr 0]) (pc := 424) (dec_at lsk_228 (k := 222) rfl) rfl (by decide) rfl ?_
          refine u_goto (pc := 427) (tgt := 284) (dec_at lsk_228 (k := 223) rfl) rfl ?_
          exact u_weak (sbK (sbK (sbK (sbK (sbK (sbK (sbD (sbD (sbK (sbK (sbK sb0))))))))))) h
    · have h := ifF e15 h
      refine u_ld (v := iV 1) (pc := 390) (dec_at lsk_228 (k := 204) rfl) rfl ?_
      refine u_goto (pc := 391) (tgt := 395) (dec_at lsk_228 (k := 205) rfl) rfl ?_
      refine u_sto (lv' := [.ref 271, iV l1, iV l2, iV l3, iV 1, iV l5, iV l6, iV l7, .retAddr 0, .retAddr 0, .retAddr 0]) (pc := 395) (dec_at lsk_228 (k := 207) rfl) rfl ?_
      refine u_ld (v := .ref 271) (pc := 397) (dec_at lsk_228 (k := 208) rfl) rfl ?_
      refine u_gS (o := 29) (p := 300) (pc := 398) (dec_at lsk_228 (k := 209) rfl) f_12_96 sx_271 rfl rfl ?_
      refine u_ld (v := iV l5) (pc := 401) (dec_at lsk_228 (k := 210) rfl) rfl ?_
      refine u_ld (v := .ref 271) (pc := 403) (dec_at lsk_228 (k := 211) rfl) rfl ?_
      refine u_gS (o := 29) (p := 300) (pc := 404) (dec_at lsk_228 (k := 212) rfl) f_12_96 sx_271 rfl rfl ?_
      refine u_ld (v := iV l5) (pc := 407) (dec_at lsk_228 (k := 213) rfl) rfl ?_
      have g38 := h.1
      have h := h.2
      have g39 := h.1
      have h := h.2
      refine u_zald (pc := 409) (dec_at lsk_228 (k := 214) rfl) sx_300 g38 g39 ?_
      have g40 := h.1
      have h := h.2
      refine u_ifF (pc := 410) (tgt := 418) (dec_at lsk_228 (k := 215) rfl) rfl (c0_ne g40) (fun e41 => ?_) (fun e41 => ?_)
      · have h := ifT e41 h
        refine u_ld (v := iV l6) (pc := 413) (dec_at lsk_228 (k := 216) rfl) rfl ?_
        have g42 := h.1
        have h := h.2
        refine u_ifT (pc := 415) (tgt := 422) (dec_at lsk_228 (k := 217) rfl) rfl (c0_eq g42) (fun e43 => ?_) (fun e43 => ?_)
        · have h := ifT e43 h
          refine u_ld (v := iV 0) (pc := 422) (dec_at lsk_228 (k := 220) rfl) rfl ?_
          refine u_zast (pc := 423) (dec_at lsk_228 (k := 221) rfl) sx_300 g38 g39 (by decide) (fun u44 e45 => ?_)
          have h := h u44 e45
          refine u_inc (lv' := [.ref 271, iV l1, iV l2, iV l3, iV 1, iV (l5 + 1), iV l6, iV l7, .retAddr 0, .retAddr 0, .retAddr 0]) (pc := 424) (dec_at lsk_228 (k := 222) rfl) rfl (by decide) rfl ?_
          refine u_goto (pc := 427) (tgt := 284) (dec_at lsk_228 (k := 223) rfl) rfl ?_
          exact u_weak (sbK (sbK (sbK (sbK (sbK (sbK (sbD (sbD (sbK (sbK (sbK sb0))))))))))) h
        · have h := ifF e43 h
          refine u_ld (v := iV 1) (pc := 418) (dec_at lsk_228 (k := 218) rfl) rfl ?_
          refine u_goto (pc := 419) (tgt := 423) (dec_at lsk_228 (k := 219) rfl) rfl ?_
          refine u_zast (pc := 423) (dec_at lsk_228 (k := 221) rfl) sx_300 g38 g39 (by decide) (fun u46 e47 => ?_)
          have h := h u46 e47
          refine u_inc (lv' := [.ref 271, iV l1, iV l2, iV l3, iV 1, iV (l5 + 1), iV l6, iV l7, .retAddr 0, .retAddr 0, .retAddr 0]) (pc := 424) (dec_at lsk_228 (k := 222) rfl) rfl (by decide) rfl ?_
          refine u_goto (pc := 427) (tgt := 284) (dec_at lsk_228 (k := 223) rfl) rfl ?_
          exact u_weak (sbK (sbK (sbK (sbK (sbK (sbK (sbD (sbD (sbK (sbK (sbK sb0))))))))))) h
      · have h := ifF e41 h
        refine u_ld (v := iV 1) (pc := 418) (dec_at lsk_228 (k := 218) rfl) rfl ?_
        refine u_goto (pc := 419) (tgt := 423) (dec_at lsk_228 (k := 219) rfl) rfl ?_
        refine u_zast (pc := 423) (dec_at lsk_228 (k := 221) rfl) sx_300 g38 g39 (by decide) (fun u48 e49 => ?_)
        have h := h u48 e49
        refine u_inc (lv' := [.ref 271, iV l1, iV l2, iV l3, iV 1, iV (l5 + 1), iV l6, iV l7, .retAddr 0, .retAddr 0, .retAddr 0]) (pc := 424) (dec_at lsk_228 (k := 222) rfl) rfl (by decide) rfl ?_
        refine u_goto (pc := 427) (tgt := 284) (dec_at lsk_228 (k := 223) rfl) rfl ?_
        exact u_weak (sbK (sbK (sbK (sbK (sbK (sbK (sbD (sbD (sbK (sbK (sbK sb0))))))))))) h
/-- method 229 -/
def K_229 (d pc : Nat) (lv : ev_L) (st : List Value) (u : uS) (Q : Int → uS → Prop) : Prop := okU d 12 14 false (some .long) prog_14_method_29_code (qL Q) pc lv st u
theorem e_229 {d : Nat} {Q : Int → uS → Prop} {u : uS} {l1 l2 l3 l4 : Int} (h : (0 ≤ l1) ∧ ((l1 < 30) ∧ (K_229 (d + 2) 11 [.ref 271, iV l1, iV l2, iV l3, iV l4, iV (u.1 276 l1), iV l2, .retAddr 0, .retAddr 0, .retAddr 0, .retAddr 0, .retAddr 0, .retAddr 0, .retAddr 0] [] u Q))) : cL (d + 3) 229 [.ref 271, iV l1, iV l2, iV l3, iV l4] u Q := by
  refine u_of me_229 (Nat.le_of_ble_eq_true rfl) ?_
  refine u_ld (v := .ref 271) (pc := 0) (dec_at lsk_229 (k := 0) rfl) rfl ?_
  refine u_gS (o := 5) (p := 276) (pc := 1) (dec_at lsk_229 (k := 1) rfl) f_12_22 sx_271 rfl rfl ?_
  refine u_ld (v := iV l1) (pc := 4) (dec_at lsk_229 (k := 2) rfl) rfl ?_
  have g1 := h.1
  have h := h.2
  have g2 := h.1
  have h := h.2
  refine u_iald (pc := 5) (dec_at lsk_229 (k := 3) rfl) sx_276 g1 g2 ?_
  refine u_sto (lv' := [.ref 271, iV l1, iV l2, iV l3, iV l4, iV (u.1 276 l1), .retAddr 0, .retAddr 0, .retAddr 0, .retAddr 0, .retAddr 0, .retAddr 0, .retAddr 0, .retAddr 0]) (pc := 6) (dec_at lsk_229 (k := 4) rfl) rfl ?_
  refine u_ld (v := iV l2) (pc := 8) (dec_at lsk_229 (k := 5) rfl) rfl ?_
  refine u_sto (lv' := [.ref 271, iV l1, iV l2, iV l3, iV l4, iV (u.1 276 l1), iV l2, .retAddr 0, .retAddr 0, .retAddr 0, .retAddr 0, .retAddr 0, .retAddr 0, .retAddr 0]) (pc := 9) (dec_at lsk_229 (k := 6) rfl) rfl ?_
  exact h
theorem k_229_11 {d : Nat} {Q : Int → uS → Prop} {u : uS} {l1 l2 l3 l4 l5 l6 : Int} (h : (rI l6) ∧ ((rI l3) ∧ (if l3 < l6 then (K_229 (d + 2) 44 [.ref 271, iV l1, iV l2, iV l3, iV l4, iV l5, iV 1, .retAddr 0, .retAddr 0, .retAddr 0, .retAddr 0, .retAddr 0, .retAddr 0, .retAddr 0] [] u Q) else ((rI l2) ∧ (if l6 = l2 then ((0 ≤ l6) ∧ ((l6 < 287) ∧ (∀ u8 : uS, u8 = wr u 297 l6 1 → (K_229 (d + 2) 11 [.ref 271, iV l1, iV l2, iV l3, iV l4, iV l5, iV (l6 + 1), .retAddr 0, .retAddr 0, .retAddr 0, .retAddr 0, .retAddr 0, .retAddr 0, .retAddr 0] [] u8 Q)))) else ((0 ≤ l6) ∧ ((l6 < 287) ∧ (∀ u12 : uS, u12 = wr u 297 l6 0 → (K_229 (d + 2) 11 [.ref 271, iV l1, iV l2, iV l3, iV l4, iV l5, iV (l6 + 1), .retAddr 0, .retAddr 0, .retAddr 0, .retAddr 0, .retAddr 0, .retAddr 0, .retAddr 0] [] u12 Q))))))))) : K_229 (d + 2) 11 [.ref 271, iV l1, iV l2, iV l3, iV l4, iV l5, iV l6, .retAddr 0, .retAddr 0, .retAddr 0, .retAddr 0, .retAddr 0, .retAddr 0, .retAddr 0] [] u Q := by
  unfold K_229
  refine u_ld (v := iV l6) (pc := 11) (dec_at lsk_229 (k := 7) rfl) rfl ?_
  refine u_ld (v := iV l3) (pc := 13) (dec_at lsk_229 (k := 8) rfl) rfl ?_
  have g1 := h.1
  have h := h.2
  have g2 := h.1
  have h := h.2
  refine u_icT (pc := 14) (tgt := 41) (dec_at lsk_229 (k := 9) rfl) rfl (ci_gt g1 g2) (fun e3 => ?_) (fun e3 => ?_)
  · have h := ifT e3 h
    refine u_ld (v := iV 1) (pc := 41) (dec_at lsk_229 (k := 22) rfl) rfl ?_
    refine u_sto (lv' := [.ref 271, iV l1, iV l2, iV l3, iV l4, iV l5, iV 1, .retAddr 0, .retAddr 0, .retAddr 0, .retAddr 0, .retAddr 0, .retAddr 0, .retAddr 0]) (pc := 42) (dec_at lsk_229 (k := 23) rfl) rfl ?_
    exact h
  · have h := ifF e3 h
    refine u_ld (v := .ref 271) (pc := 17) (dec_at lsk_229 (k := 10) rfl) rfl ?_
    refine u_gS (o := 26) (p := 297) (pc := 18) (dec_at lsk_229 (k := 11) rfl) f_12_87 sx_271 rfl rfl ?_
    refine u_ld (v := iV l6) (pc := 21) (dec_at lsk_229 (k := 12) rfl) rfl ?_
    refine u_ld (v := iV l6) (pc := 23) (dec_at lsk_229 (k := 13) rfl) rfl ?_
    refine u_ld (v := iV l2) (pc := 25) (dec_at lsk_229 (k := 14) rfl) rfl ?_
    have g4 := h.1
    have h := h.2
    refine u_icF (pc := 26) (tgt := 33) (dec_at lsk_229 (k := 15) rfl) rfl (ci_ne g1 g4) (fun e5 => ?_) (fun e5 => ?_)
    · have h := ifT e5 h
      refine u_cl (x := 1) (pc := 29) (dec_at lsk_229 (k := 16) rfl) rfl (by decide) ?_
      refine u_goto (pc := 30) (tgt := 34) (dec_at lsk_229 (k := 17) rfl) rfl ?_
      have g6 := h.1
      have h := h.2
      have g7 := h.1
      have h := h.2
      refine u_last (pc := 34) (dec_at lsk_229 (k := 19) rfl) sx_297 g6 g7 (fun u8 e9 => ?_)
      have h := h u8 e9
      refine u_inc (lv' := [.ref 271, iV l1, iV l2, iV l3, iV l4, iV l5, iV (l6 + 1), .retAddr 0, .retAddr 0, .retAddr 0, .retAddr 0, .retAddr 0, .retAddr 0, .retAddr 0]) (pc := 35) (dec_at lsk_229 (k := 20) rfl) rfl (by decide) rfl ?_
      refine u_goto (pc := 38) (tgt := 11) (dec_at lsk_229 (k := 21) rfl) rfl ?_
      exact h
    · have h := ifF e5 h
      refine u_cl (x := 0) (pc := 33) (dec_at lsk_229 (k := 18) rfl) rfl (by decide) ?_
      have g10 := h.1
      have h := h.2
      have g11 := h.1
      have h := h.2
      refine u_last (pc := 34) (dec_at lsk_229 (k := 19) rfl) sx_297 g10 g11 (fun u12 e13 => ?_)
      have h := h u12 e13
      refine u_inc (lv' := [.ref 271, iV l1, iV l2, iV l3, iV l4, iV l5, iV (l6 + 1), .retAddr 0, .retAddr 0, .retAddr 0, .retAddr 0, .retAddr 0, .retAddr 0, .retAddr 0]) (pc := 35) (dec_at lsk_229 (k := 20) rfl) rfl (by decide) rfl ?_
      refine u_goto (pc := 38) (tgt := 11) (dec_at lsk_229 (k := 21) rfl) rfl ?_
      exact h
theorem k_229_44 {d : Nat} {Q : Int → uS → Prop} {u : uS} {l1 l2 l3 l4 l5 l6 : Int} (h : (rI l6) ∧ ((rI l5) ∧ (if l5 < l6 then ((0 ≤ (41 * l5) + l3) ∧ (((41 * l5) + l3 < 287) ∧ (Q (u.1 297 ((41 * l5) + l3)) u))) else ((0 ≤ ((6 * l1) + l6) - 1) ∧ ((((6 * l1) + l6) - 1 < 180) ∧ (K_229 (d + 2) 70 [.ref 271, iV l1, iV l2, iV l3, iV l4, iV l5, iV l6, iV (u.1 277 (((6 * l1) + l6) - 1)), iV l2, .retAddr 0, .retAddr 0, .retAddr 0, .retAddr 0, .retAddr 0] [] u Q)))))) : K_229 (d + 2) 44 [.ref 271, iV l1, iV l2, iV l3, iV l4, iV l5, iV l6, .retAddr 0, .retAddr 0, .retAddr 0, .retAddr 0, .retAddr 0, .retAddr 0, .retAddr 0] [] u Q := by
  unfold K_229
  refine u_ld (v := iV l6) (pc := 44) (dec_at lsk_229 (k := 24) rfl) rfl ?_
  refine u_ld (v := iV l5) (pc := 46) (dec_at lsk_229 (k := 25) rfl) rfl ?_
  have g1 := h.1
  have h := h.2
  have g2 := h.1
  have h := h.2
  refine u_icT (pc := 48) (tgt := 265) (dec_at lsk_229 (k := 26) rfl) rfl (ci_gt g1 g2) (fun e3 => ?_) (fun e3 => ?_)
  · have h := ifT e3 h
    refine u_ld (v := .ref 271) (pc := 265) (dec_at lsk_229 (k := 142) rfl) rfl ?_
    refine u_gS (o := 26) (p := 297) (pc := 266) (dec_at lsk_229 (k := 143) rfl) f_12_87 sx_271 rfl rfl ?_
    refine u_c (x := 41) (pc := 269) (dec_at lsk_229 (k := 144) rfl) rfl (by decide) ?_
    refine u_ld (v := iV l5) (pc := 271) (dec_at lsk_229 (k := 145) rfl) rfl ?_
    refine u_imul (pc := 273) (dec_at lsk_229 (k := 146) rfl) ?_
    refine u_ld (v := iV l3) (pc := 274) (dec_at lsk_229 (k := 147) rfl) rfl ?_
    refine u_iadd (pc := 275) (dec_at lsk_229 (k := 148) rfl) ?_
    have g4 := h.1
    have h := h.2
    have g5 := h.1
    have h := h.2
    refine u_lald (pc := 276) (dec_at lsk_229 (k := 149) rfl) sx_297 g4 g5 ?_
    exact u_rL (pc := 277) (dec_at lsk_229 (k := 150) rfl) rfl h
  · have h := ifF e3 h
    refine u_ld (v := .ref 271) (pc := 51) (dec_at lsk_229 (k := 27) rfl) rfl ?_
    refine u_gS (o := 6) (p := 277) (pc := 52) (dec_at lsk_229 (k := 28) rfl) f_12_25 sx_271 rfl rfl ?_
    refine u_c (x := 6) (pc := 55) (dec_at lsk_229 (k := 29) rfl) rfl (by decide) ?_
    refine u_ld (v := iV l1) (pc := 57) (dec_at lsk_229 (k := 30) rfl) rfl ?_
    refine u_imul (pc := 58) (dec_at lsk_229 (k := 31) rfl) ?_
    refine u_ld (v := iV l6) (pc := 59) (dec_at lsk_229 (k := 32) rfl) rfl ?_
    refine u_iadd (pc := 61) (dec_at lsk_229 (k := 33) rfl) ?_
    refine u_ld (v := iV 1) (pc := 62) (dec_at lsk_229 (k := 34) rfl) rfl ?_
    refine u_isub (pc := 63) (dec_at lsk_229 (k := 35) rfl) ?_
    have g6 := h.1
    have h := h.2
    have g7 := h.1
    have h := h.2
    refine u_iald (pc := 64) (dec_at lsk_229 (k := 36) rfl) sx_277 g6 g7 ?_
    refine u_sto (lv' := [.ref 271, iV l1, iV l2, iV l3, iV l4, iV l5, iV l6, iV (u.1 277 (((6 * l1) + l6) - 1)), .retAddr 0, .retAddr 0, .retAddr 0, .retAddr 0, .retAddr 0, .retAddr 0]) (pc := 65) (dec_at lsk_229 (k := 37) rfl) rfl ?_
    refine u_ld (v := iV l2) (pc := 67) (dec_at lsk_229 (k := 38) rfl) rfl ?_
    refine u_sto (lv' := [.ref 271, iV l1, iV l2, iV l3, iV l4, iV l5, iV l6, iV (u.1 277 (((6 * l1) + l6) - 1)), iV l2, .retAddr 0, .retAddr 0, .retAddr 0, .retAddr 0, .retAddr 0]) (pc := 68) (dec_at lsk_229 (k := 39) rfl) rfl ?_
    exact h
theorem k_229_70 {d : Nat} {Q : Int → uS → Prop} {u : uS} {l1 l2 l3 l4 l5 l6 l7 l8 : Int} (h : (rI l8) ∧ ((rI l3) ∧ (if l3 < l8 then (K_229 (d + 2) 44 [.ref 271, iV l1, iV l2, iV l3, iV l4, iV l5, iV (l6 + 1), .retAddr 0, .retAddr 0, .retAddr 0, .retAddr 0, .retAddr 0, .retAddr 0, .retAddr 0] [] u Q) else ((rI l7) ∧ (if l7 < 100 then ((rI l2) ∧ (if l2 < l8 then ((rI l4) ∧ (if l4 = 0 then ((0 ≤ l8 - 1) ∧ ((l8 - 1 < 40) ∧ ((rI (u.1 273 (l8 - 1))) ∧ (if u.1 273 (l8 - 1) = l7 then (K_229 (d + 2) 116 [.ref 271, iV l1, iV l2, iV l3, iV l4, iV l5, iV l6, iV l7, iV l8, .retAddr 0, .retAddr 0, .retAddr 0, .retAddr 0, .retAddr 0] [iV 1] u Q) else (K_229 (d + 2) 116 [.ref 271, iV l1, iV l2, iV l3, iV l4, iV l5, iV l6, iV l7, iV l8, .retAddr 0, .retAddr 0, .retAddr 0, .retAddr 0, .retAddr 0] [iV 0] u Q))))) else (K_229 (d + 2) 116 [.ref 271, iV l1, iV l2, iV l3, iV l4, iV l5, iV l6, iV l7, iV l8, .retAddr 0, .retAddr 0, .retAddr 0, .retAddr 0, .retAddr 0] [iV 1] u Q))) else (K_229 (d + 2) 116 [.ref 271, iV l1, iV l2, iV l3, iV l4, iV l5, iV l6, iV l7, iV l8, .retAddr 0, .retAddr 0, .retAddr 0, .retAddr 0, .retAddr 0] [iV 0] u Q))) else (K_229 (d + 2) 152 [.ref 271, iV l1, iV l2, iV l3, iV l4, iV l5, iV l6, iV l7, iV l8, lV 0, .retAddr 0, iV l2, .retAddr 0, .retAddr 0] [] u Q)))))) : K_229 (d + 2) 70 [.ref 271, iV l1, iV l2, iV l3, iV l4, iV l5, iV l6, iV l7, iV l8, .retAddr 0, .retAddr 0, .retAddr 0, .retAddr 0, .retAddr 0] [] u Q := by
  unfold K_229
  refine u_ld (v := iV l8) (pc := 70) (dec_at lsk_229 (k := 40) rfl) rfl ?_
  refine u_ld (v := iV l3) (pc := 72) (dec_at lsk_229 (k := 41) rfl) rfl ?_
  have g1 := h.1
  have h := h.2
  have g2 := h.1
  have h := h.2
  refine u_icT (pc := 73) (tgt := 259) (dec_at lsk_229 (k := 42) rfl) rfl (ci_gt g1 g2) (fun e3 => ?_) (fun e3 => ?_)
  · have h := ifT e3 h
    refine u_inc (lv' := [.ref 271, iV l1, iV l2, iV l3, iV l4, iV l5, iV (l6 + 1), iV l7, iV l8, .retAddr 0, .retAddr 0, .retAddr 0, .retAddr 0, .retAddr 0]) (pc := 259) (dec_at lsk_229 (k := 140) rfl) rfl (by decide) rfl ?_
    refine u_goto (pc := 262) (tgt := 44) (dec_at lsk_229 (k := 141) rfl) rfl ?_
    exact u_weak (sbK (sbK (sbK (sbK (sbK (sbK (sbK (sbD (sbD (sbK (sbK (sbK (sbK (sbK sb0)))))))))))))) h
  · have h := ifF e3 h
    refine u_cl (x := 0) (pc := 76) (dec_at lsk_229 (k := 43) rfl) rfl (by decide) ?_
    refine u_sto (lv' := [.ref 271, iV l1, iV l2, iV l3, iV l4, iV l5, iV l6, iV l7, iV l8, lV 0, .retAddr 0, .retAddr 0, .retAddr 0, .retAddr 0]) (pc := 77) (dec_at lsk_229 (k := 44) rfl) rfl ?_
    refine u_ld (v := iV l7) (pc := 79) (dec_at lsk_229 (k := 45) rfl) rfl ?_
    refine u_c (x := 100) (pc := 81) (dec_at lsk_229 (k := 46) rfl) rfl (by decide) ?_
    have g4 := h.1
    have h := h.2
    refine u_icF (pc := 83) (tgt := 149) (dec_at lsk_229 (k := 47) rfl) rfl (ci_ge g4 (by decide)) (fun e5 => ?_) (fun e5 => ?_)
    · have h := ifT e5 h
      refine u_ld (v := iV l8) (pc := 86) (dec_at lsk_229 (k := 48) rfl) rfl ?_
      refine u_ld (v := iV l2) (pc := 88) (dec_at lsk_229 (k := 49) rfl) rfl ?_
      have g6 := h.1
      have h := h.2
      refine u_icF (pc := 89) (tgt := 115) (dec_at lsk_229 (k := 50) rfl) rfl (ci_le g1 g6) (fun e7 => ?_) (fun e7 => ?_)
      · have h := ifT e7 h
        refine u_ld (v := iV l4) (pc := 92) (dec_at lsk_229 (k := 51) rfl) rfl ?_
        have g8 := h.1
        have h := h.2
        refine u_ifF (pc := 94) (tgt := 111) (dec_at lsk_229 (k := 52) rfl) rfl (c0_ne g8) (fun e9 => ?_) (fun e9 => ?_)
        · have h := ifT e9 h
          refine u_ld (v := .ref 271) (pc := 97) (dec_at lsk_229 (k := 53) rfl) rfl ?_
          refine u_gS (o := 2) (p := 273) (pc := 98) (dec_at lsk_229 (k := 54) rfl) f_12_13 sx_271 rfl rfl ?_
          refine u_ld (v := iV l8) (pc := 101) (dec_at lsk_229 (k := 55) rfl) rfl ?_
          refine u_ld (v := iV 1) (pc := 103) (dec_at lsk_229 (k := 56) rfl) rfl ?_
          refine u_isub (pc := 104) (dec_at lsk_229 (k := 57) rfl) ?_
          have g10 := h.1
          have h := h.2
          have g11 := h.1
          have h := h.2
          refine u_iald (pc := 105) (dec_at lsk_229 (k := 58) rfl) sx_273 g10 g11 ?_
          refine u_ld (v := iV l7) (pc := 106) (dec_at lsk_229 (k := 59) rfl) rfl ?_
          have g12 := h.1
          have h := h.2
          refine u_icF (pc := 108) (tgt := 115) (dec_at lsk_229 (k := 60) rfl) rfl (ci_ne g12 g4) (fun e13 => ?_) (fun e13 => ?_)
          · have h := ifT e13 h
            refine u_ld (v := iV 1) (pc := 111) (dec_at lsk_229 (k := 61) rfl) rfl ?_
            refine u_goto (pc := 112) (tgt := 116) (dec_at lsk_229 (k := 62) rfl) rfl ?_
            exact u_weak (sbK (sbK (sbK (sbK (sbK (sbK (sbK (sbK (sbK (sbD (sbK (sbK (sbK (sbK sb0)))))))))))))) h
          · have h := ifF e13 h
            refine u_ld (v := iV 0) (pc := 115) (dec_at lsk_229 (k := 63) rfl) rfl ?_
            exact u_weak (sbK (sbK (sbK (sbK (sbK (sbK (sbK (sbK (sbK (sbD (sbK (sbK (sbK (sbK sb0)))))))))))))) h
        · have h := ifF e9 h
          refine u_ld (v := iV 1) (pc := 111) (dec_at lsk_229 (k := 61) rfl) rfl ?_
          refine u_goto (pc := 112) (tgt := 116) (dec_at lsk_229 (k := 62) rfl) rfl ?_
          exact u_weak (sbK (sbK (sbK (sbK (sbK (sbK (sbK (sbK (sbK (sbD (sbK (sbK (sbK (sbK sb0)))))))))))))) h
      · have h := ifF e7 h
        refine u_ld (v := iV 0) (pc := 115) (dec_at lsk_229 (k := 63) rfl) rfl ?_
        exact u_weak (sbK (sbK (sbK (sbK (sbK (sbK (sbK (sbK (sbK (sbD (sbK (sbK (sbK (sbK sb0)))))))))))))) h
    · have h := ifF e5 h
      refine u_ld (v := iV l2) (pc := 149) (dec_at lsk_229 (k := 83) rfl) rfl ?_
      refine u_sto (lv' := [.ref 271, iV l1, iV l2, iV l3, iV l4, iV l5, iV l6, iV l7, iV l8, lV 0, .retAddr 0, iV l2, .retAddr 0, .retAddr 0]) (pc := 150) (dec_at lsk_229 (k := 84) rfl) rfl ?_
      exact h
theorem k_229_116 {d : Nat} {Q : Int → uS → Prop} {u : uS} {l1 l2 l3 l4 l5 l6 l7 l8 s0 : Int} (h : (rI s0) ∧ (if s0 = 0 then ((0 ≤ (41 * l6) + l8) ∧ (((41 * l6) + l8 < 287) ∧ (∀ u5 : uS, u5 = wr u 297 ((41 * l6) + l8) 0 → (K_229 (d + 2) 70 [.ref 271, iV l1, iV l2, iV l3, iV l4, iV l5, iV l6, iV l7, iV (l8 + 1), .retAddr 0, .retAddr 0, .retAddr 0, .retAddr 0, .retAddr 0] [] u5 Q)))) else ((0 ≤ ((41 * (l6 - 1)) + l8) - 1) ∧ ((((41 * (l6 - 1)) + l8) - 1 < 287) ∧ ((0 ≤ (41 * l6) + l8) ∧ (((41 * l6) + l8 < 287) ∧ (∀ u11 : uS, u11 = wr u 297 ((41 * l6) + l8) (u.1 297 (((41 * (l6 - 1)) + l8) - 1)) → (K_229 (d + 2) 70 [.ref 271, iV l1, iV l2, iV l3, iV l4, iV l5, iV l6, iV l7, iV (l8 + 1), .retAddr 0, .retAddr 0, .retAddr 0, .retAddr 0, .retAddr 0] [] u11 Q)))))))) : K_229 (d + 2) 116 [.ref 271, iV l1, iV l2, iV l3, iV l4, iV l5, iV l6, iV l7, iV l8, .retAddr 0, .retAddr 0, .retAddr 0, .retAddr 0, .retAddr 0] [iV s0] u Q := by
  unfold K_229
  refine u_sto (lv' := [.ref 271, iV l1, iV l2, iV l3, iV l4, iV l5, iV l6, iV l7, iV l8, .retAddr 0, .retAddr 0, iV s0, .retAddr 0, .retAddr 0]) (pc := 116) (dec_at lsk_229 (k := 64) rfl) rfl ?_
  refine u_ld (v := iV s0) (pc := 118) (dec_at lsk_229 (k := 65) rfl) rfl ?_
  have g1 := h.1
  have h := h.2
  refine u_ifT (pc := 120) (tgt := 143) (dec_at lsk_229 (k := 66) rfl) rfl (c0_eq g1) (fun e2 => ?_) (fun e2 => ?_)
  · have h := ifT e2 h
    refine u_cl (x := 0) (pc := 143) (dec_at lsk_229 (k := 80) rfl) rfl (by decide) ?_
    refine u_sto (lv' := [.ref 271, iV l1, iV l2, iV l3, iV l4, iV l5, iV l6, iV l7, iV l8, lV 0, .retAddr 0, iV s0, .retAddr 0, .retAddr 0]) (pc := 144) (dec_at lsk_229 (k := 81) rfl) rfl ?_
    refine u_goto (pc := 146) (tgt := 238) (dec_at lsk_229 (k := 82) rfl) rfl ?_
    refine u_ld (v := .ref 271) (pc := 238) (dec_at lsk_229 (k := 129) rfl) rfl ?_
    refine u_gS (o := 26) (p := 297) (pc := 239) (dec_at lsk_229 (k := 130) rfl) f_12_87 sx_271 rfl rfl ?_
    refine u_c (x := 41) (pc := 242) (dec_at lsk_229 (k := 131) rfl) rfl (by decide) ?_
    refine u_ld (v := iV l6) (pc := 244) (dec_at lsk_229 (k := 132) rfl) rfl ?_
    refine u_imul (pc := 246) (dec_at lsk_229 (k := 133) rfl) ?_
    refine u_ld (v := iV l8) (pc := 247) (dec_at lsk_229 (k := 134) rfl) rfl ?_
    refine u_iadd (pc := 249) (dec_at lsk_229 (k := 135) rfl) ?_
    refine u_ld (v := lV 0) (pc := 250) (dec_at lsk_229 (k := 136) rfl) rfl ?_
    have g3 := h.1
    have h := h.2
    have g4 := h.1
    have h := h.2
    refine u_last (pc := 252) (dec_at lsk_229 (k := 137) rfl) sx_297 g3 g4 (fun u5 e6 => ?_)
    have h := h u5 e6
    refine u_inc (lv' := [.ref 271, iV l1, iV l2, iV l3, iV l4, iV l5, iV l6, iV l7, iV (l8 + 1), lV 0, .retAddr 0, iV s0, .retAddr 0, .retAddr 0]) (pc := 253) (dec_at lsk_229 (k := 138) rfl) rfl (by decide) rfl ?_
    refine u_goto (pc := 256) (tgt := 70) (dec_at lsk_229 (k := 139) rfl) rfl ?_
    exact u_weak (sbK (sbK (sbK (sbK (sbK (sbK (sbK (sbK (sbK (sbD (sbK (sbD (sbK (sbK sb0)))))))))))))) h
  · have h := ifF e2 h
    refine u_ld (v := .ref 271) (pc := 123) (dec_at lsk_229 (k := 67) rfl) rfl ?_
    refine u_gS (o := 26) (p := 297) (pc := 124) (dec_at lsk_229 (k := 68) rfl) f_12_87 sx_271 rfl rfl ?_
    refine u_c (x := 41) (pc := 127) (dec_at lsk_229 (k := 69) rfl) rfl (by decide) ?_
    refine u_ld (v := iV l6) (pc := 129) (dec_at lsk_229 (k := 70) rfl) rfl ?_
    refine u_ld (v := iV 1) (pc := 131) (dec_at lsk_229 (k := 71) rfl) rfl ?_
    refine u_isub (pc := 132) (dec_at lsk_229 (k := 72) rfl) ?_
    refine u_imul (pc := 133) (dec_at lsk_229 (k := 73) rfl) ?_
    refine u_ld (v := iV l8) (pc := 134) (dec_at lsk_229 (k := 74) rfl) rfl ?_
    refine u_iadd (pc := 136) (dec_at lsk_229 (k := 75) rfl) ?_
    refine u_ld (v := iV 1) (pc := 137) (dec_at lsk_229 (k := 76) rfl) rfl ?_
    refine u_isub (pc := 138) (dec_at lsk_229 (k := 77) rfl) ?_
    have g7 := h.1
    have h := h.2
    have g8 := h.1
    have h := h.2
    refine u_lald (pc := 139) (dec_at lsk_229 (k := 78) rfl) sx_297 g7 g8 ?_
    refine u_goto (pc := 140) (tgt := 144) (dec_at lsk_229 (k := 79) rfl) rfl ?_
    refine u_sto (lv' := [.ref 271, iV l1, iV l2, iV l3, iV l4, iV l5, iV l6, iV l7, iV l8, lV (u.1 297 (((41 * (l6 - 1)) + l8) - 1)), .retAddr 0, iV s0, .retAddr 0, .retAddr 0]) (pc := 144) (dec_at lsk_229 (k := 81) rfl) rfl ?_
    refine u_goto (pc := 146) (tgt := 238) (dec_at lsk_229 (k := 82) rfl) rfl ?_
    refine u_ld (v := .ref 271) (pc := 238) (dec_at lsk_229 (k := 129) rfl) rfl ?_
    refine u_gS (o := 26) (p := 297) (pc := 239) (dec_at lsk_229 (k := 130) rfl) f_12_87 sx_271 rfl rfl ?_
    refine u_c (x := 41) (pc := 242) (dec_at lsk_229 (k := 131) rfl) rfl (by decide) ?_
    refine u_ld (v := iV l6) (pc := 244) (dec_at lsk_229 (k := 132) rfl) rfl ?_
    refine u_imul (pc := 246) (dec_at lsk_229 (k := 133) rfl) ?_
    refine u_ld (v := iV l8) (pc := 247) (dec_at lsk_229 (k := 134) rfl) rfl ?_
    refine u_iadd (pc := 249) (dec_at lsk_229 (k := 135) rfl) ?_
    refine u_ld (v := lV (u.1 297 (((41 * (l6 - 1)) + l8) - 1))) (pc := 250) (dec_at lsk_229 (k := 136) rfl) rfl ?_
    have g9 := h.1
    have h := h.2
    have g10 := h.1
    have h := h.2
    refine u_last (pc := 252) (dec_at lsk_229 (k := 137) rfl) sx_297 g9 g10 (fun u11 e12 => ?_)
    have h := h u11 e12
    refine u_inc (lv' := [.ref 271, iV l1, iV l2, iV l3, iV l4, iV l5, iV l6, iV l7, iV (l8 + 1), lV (u.1 297 (((41 * (l6 - 1)) + l8) - 1)), .retAddr 0, iV s0, .retAddr 0, .retAddr 0]) (pc := 253) (dec_at lsk_229 (k := 138) rfl) rfl (by decide) rfl ?_
    refine u_goto (pc := 256) (tgt := 70) (dec_at lsk_229 (k := 139) rfl) rfl ?_
    exact u_weak (sbK (sbK (sbK (sbK (sbK (sbK (sbK (sbK (sbK (sbD (sbK (sbD (sbK (sbK sb0)))))))))))))) h
theorem k_229_152 {d : Nat} {Q : Int → uS → Prop} {u : uS} {l1 l2 l3 l4 l5 l6 l7 l8 l9 l11 : Int} (h : (rI l11) ∧ ((rI l8) ∧ (if l8 < l11 then ((0 ≤ (41 * l6) + l8) ∧ (((41 * l6) + l8 < 287) ∧ (∀ u6 : uS, u6 = wr u 297 ((41 * l6) + l8) l9 → (K_229 (d + 2) 70 [.ref 271, iV l1, iV l2, iV l3, iV l4, iV l5, iV l6, iV l7, iV (l8 + 1), .retAddr 0, .retAddr 0, .retAddr 0, .retAddr 0, .retAddr 0] [] u6 Q)))) else ((rI l2) ∧ (if l11 = l2 then ((rI l3) ∧ (if l8 = l3 then (if l2 < l3 then (K_229 (d + 2) 152 [.ref 271, iV l1, iV l2, iV l3, iV l4, iV l5, iV l6, iV l7, iV l8, lV l9, .retAddr 0, iV (l11 + 1), .retAddr 0, .retAddr 0] [] u Q) else (K_229 (d + 2) 176 [.ref 271, iV l1, iV l2, iV l3, iV l4, iV l5, iV l6, iV l7, iV l8, lV l9, .retAddr 0, iV l11, .retAddr 0, .retAddr 0] [] u Q)) else (K_229 (d + 2) 176 [.ref 271, iV l1, iV l2, iV l3, iV l4, iV l5, iV l6, iV l7, iV l8, lV l9, .retAddr 0, iV l11, .retAddr 0, .retAddr 0] [] u Q))) else (K_229 (d + 2) 176 [.ref 271, iV l1, iV l2, iV l3, iV l4, iV l5, iV l6, iV l7, iV l8, lV l9, .retAddr 0, iV l11, .retAddr 0, .retAddr 0] [] u Q)))))) : K_229 (d + 2) 152 [.ref 271, iV l1, iV l2, iV l3, iV l4, iV l5, iV l6, iV l7, iV l8, lV l9, .retAddr 0, iV l11, .retAddr 0, .retAddr 0] [] u Q := by
  unfold K_229
  refine u_ld (v := iV l11) (pc := 152) (dec_at lsk_229 (k := 85) rfl) rfl ?_
  refine u_ld (v := iV l8) (pc := 154) (dec_at lsk_229 (k := 86) rfl) rfl ?_
  have g1 := h.1
  have h := h.2
  have g2 := h.1
  have h := h.2
  refine u_icT (pc := 156) (tgt := 238) (dec_at lsk_229 (k := 87) rfl) rfl (ci_gt g1 g2) (fun e3 => ?_) (fun e3 => ?_)
  · have h := ifT e3 h
    refine u_ld (v := .ref 271) (pc := 238) (dec_at lsk_229 (k := 129) rfl) rfl ?_
    refine u_gS (o := 26) (p := 297) (pc := 239) (dec_at lsk_229 (k := 130) rfl) f_12_87 sx_271 rfl rfl ?_
    refine u_c (x := 41) (pc := 242) (dec_at lsk_229 (k := 131) rfl) rfl (by decide) ?_
    refine u_ld (v := iV l6) (pc := 244) (dec_at lsk_229 (k := 132) rfl) rfl ?_
    refine u_imul (pc := 246) (dec_at lsk_229 (k := 133) rfl) ?_
    refine u_ld (v := iV l8) (pc := 247) (dec_at lsk_229 (k := 134) rfl) rfl ?_
    refine u_iadd (pc := 249) (dec_at lsk_229 (k := 135) rfl) ?_
    refine u_ld (v := lV l9) (pc := 250) (dec_at lsk_229 (k := 136) rfl) rfl ?_
    have g4 := h.1
    have h := h.2
    have g5 := h.1
    have h := h.2
    refine u_last (pc := 252) (dec_at lsk_229 (k := 137) rfl) sx_297 g4 g5 (fun u6 e7 => ?_)
    have h := h u6 e7
    refine u_inc (lv' := [.ref 271, iV l1, iV l2, iV l3, iV l4, iV l5, iV l6, iV l7, iV (l8 + 1), lV l9, .retAddr 0, iV l11, .retAddr 0, .retAddr 0]) (pc := 253) (dec_at lsk_229 (k := 138) rfl) rfl (by decide) rfl ?_
    refine u_goto (pc := 256) (tgt := 70) (dec_at lsk_229 (k := 139) rfl) rfl ?_
    exact u_weak (sbK (sbK (sbK (sbK (sbK (sbK (sbK (sbK (sbK (sbD (sbK (sbD (sbK (sbK sb0)))))))))))))) h
  · have h := ifF e3 h
    refine u_ld (v := iV l11) (pc := 159) (dec_at lsk_229 (k := 88) rfl) rfl ?_
    refine u_ld (v := iV l2) (pc := 161) (dec_at lsk_229 (k := 89) rfl) rfl ?_
    have g8 := h.1
    have h := h.2
    refine u_icF (pc := 162) (tgt := 176) (dec_at lsk_229 (k := 90) rfl) rfl (ci_ne g1 g8) (fun e9 => ?_) (fun e9 => ?_)
    · have h := ifT e9 h
      refine u_ld (v := iV l8) (pc := 165) (dec_at lsk_229 (k := 91) rfl) rfl ?_
      refine u_ld (v := iV l3) (pc := 167) (dec_at lsk_229 (k := 92) rfl) rfl ?_
      have g10 := h.1
      have h := h.2
      refine u_icF (pc := 168) (tgt := 176) (dec_at lsk_229 (k := 93) rfl) rfl (ci_ne g2 g10) (fun e11 => ?_) (fun e11 => ?_)
      · have h := ifT e11 h
        refine u_ld (v := iV l3) (pc := 171) (dec_at lsk_229 (k := 94) rfl) rfl ?_
        refine u_ld (v := iV l2) (pc := 172) (dec_at lsk_229 (k := 95) rfl) rfl ?_
        refine u_icT (pc := 173) (tgt := 232) (dec_at lsk_229 (k := 96) rfl) rfl (ci_gt g10 g8) (fun e12 => ?_) (fun e12 => ?_)
        · have h := ifT e12 h
          refine u_inc (lv' := [.ref 271, iV l1, iV l2, iV l3, iV l4, iV l5, iV l6, iV l7, iV l8, lV l9, .retAddr 0, iV (l11 + 1), .retAddr 0, .retAddr 0]) (pc := 232) (dec_at lsk_229 (k := 127) rfl) rfl (by decide) rfl ?_
          refine u_goto (pc := 235) (tgt := 152) (dec_at lsk_229 (k := 128) rfl) rfl ?_
          exact h
        · have h := ifF e12 h
          exact h
      · have h := ifF e11 h
        exact h
    · have h := ifF e9 h
      exact h
theorem k_229_176 {d : Nat} {Q : Int → uS → Prop} {u : uS} {l1 l2 l3 l4 l5 l6 l7 l8 l9 l11 : Int} (h : (0 ≤ (41 * (l6 - 1)) + l11) ∧ (((41 * (l6 - 1)) + l11 < 287) ∧ ((rL (u.1 297 ((41 * (l6 - 1)) + l11))) ∧ (if u.1 297 ((41 * (l6 - 1)) + l11) = 0 then (K_229 (d + 2) 152 [.ref 271, iV l1, iV l2, iV l3, iV l4, iV l5, iV l6, iV l7, iV l8, lV l9, .retAddr 0, iV (l11 + 1), .retAddr 0, .retAddr 0] [] u Q) else ((rI l11) ∧ ((rI l8) ∧ (if l11 = l8 then ((0 ≤ l7 - 100) ∧ ((l7 - 100 < 10) ∧ ((cn 5000000000000000000 (u.1 297 ((41 * (l6 - 1)) + l11))) ∧ ((cn 5000000000000000000 (u.1 292 (l7 - 100))) ∧ ((cn 5000000000000000000 l9) ∧ (K_229 (d + 2) 152 [.ref 271, iV l1, iV l2, iV l3, iV l4, iV l5, iV l6, iV l7, iV l8, lV (pl 5000000000000000000 l9 (tm 5000000000000000000 (u.1 297 ((41 * (l6 - 1)) + l11)) (u.1 292 (l7 - 100)))), .retAddr 0, iV (l11 + 1), .retAddr 0, .retAddr 0] [] u Q)))))) else ((rI l4) ∧ (if l4 = 0 then ((0 ≤ ((((l7 - 100) * 41) + l11) * 41) + l8) ∧ ((((((l7 - 100) * 41) + l11) * 41) + l8 < 16810) ∧ ((cn 5000000000000000000 (u.1 297 ((41 * (l6 - 1)) + l11))) ∧ ((cn 5000000000000000000 (u.1 296 (((((l7 - 100) * 41) + l11) * 41) + l8))) ∧ ((cn 5000000000000000000 l9) ∧ (K_229 (d + 2) 152 [.ref 271, iV l1, iV l2, iV l3, iV l4, iV l5, iV l6, iV l7, iV l8, lV (pl 5000000000000000000 l9 (tm 5000000000000000000 (u.1 297 ((41 * (l6 - 1)) + l11)) (u.1 296 (((((l7 - 100) * 41) + l11) * 41) + l8)))), .retAddr 0, iV (l11 + 1), .retAddr 0, .retAddr 0] [] u Q)))))) else ((0 ≤ ((((l7 - 100) * 41) + 0) * 41) + (l8 - l11)) ∧ ((((((l7 - 100) * 41) + 0) * 41) + (l8 - l11) < 16810) ∧ ((cn 5000000000000000000 (u.1 297 ((41 * (l6 - 1)) + l11))) ∧ ((cn 5000000000000000000 (u.1 296 (((((l7 - 100) * 41) + 0) * 41) + (l8 - l11)))) ∧ ((cn 5000000000000000000 l9) ∧ (K_229 (d + 2) 152 [.ref 271, iV l1, iV l2, iV l3, iV l4, iV l5, iV l6, iV l7, iV l8, lV (pl 5000000000000000000 l9 (tm 5000000000000000000 (u.1 297 ((41 * (l6 - 1)) + l11)) (u.1 296 (((((l7 - 100) * 41) + 0) * 41) + (l8 - l11))))), .retAddr 0, iV (l11 + 1), .retAddr 0, .retAddr 0] [] u Q))))))))))))))) : K_229 (d + 2) 176 [.ref 271, iV l1, iV l2, iV l3, iV l4, iV l5, iV l6, iV l7, iV l8, lV l9, .retAddr 0, iV l11, .retAddr 0, .retAddr 0] [] u Q := by
  unfold K_229
  refine u_ld (v := .ref 271) (pc := 176) (dec_at lsk_229 (k := 97) rfl) rfl ?_
  refine u_gS (o := 26) (p := 297) (pc := 177) (dec_at lsk_229 (k := 98) rfl) f_12_87 sx_271 rfl rfl ?_
  refine u_c (x := 41) (pc := 180) (dec_at lsk_229 (k := 99) rfl) rfl (by decide) ?_
  refine u_ld (v := iV l6) (pc := 182) (dec_at lsk_229 (k := 100) rfl) rfl ?_
  refine u_ld (v := iV 1) (pc := 184) (dec_at lsk_229 (k := 101) rfl) rfl ?_
  refine u_isub (pc := 185) (dec_at lsk_229 (k := 102) rfl) ?_
  refine u_imul (pc := 186) (dec_at lsk_229 (k := 103) rfl) ?_
  refine u_ld (v := iV l11) (pc := 187) (dec_at lsk_229 (k := 104) rfl) rfl ?_
  refine u_iadd (pc := 189) (dec_at lsk_229 (k := 105) rfl) ?_
  have g1 := h.1
  have h := h.2
  have g2 := h.1
  have h := h.2
  refine u_lald (pc := 190) (dec_at lsk_229 (k := 106) rfl) sx_297 g1 g2 ?_
  refine u_sto (lv' := [.ref 271, iV l1, iV l2, iV l3, iV l4, iV l5, iV l6, iV l7, iV l8, lV l9, .retAddr 0, iV l11, lV (u.1 297 ((41 * (l6 - 1)) + l11)), .retAddr 0]) (pc := 191) (dec_at lsk_229 (k := 107) rfl) rfl ?_
  refine u_ld (v := lV (u.1 297 ((41 * (l6 - 1)) + l11))) (pc := 193) (dec_at lsk_229 (k := 108) rfl) rfl ?_
  refine u_cl (x := 0) (pc := 195) (dec_at lsk_229 (k := 109) rfl) rfl (by decide) ?_
  refine u_st (st' := [.int (lg_cmp (Int64.ofInt (u.1 297 ((41 * (l6 - 1)) + l11))) (Int64.ofInt 0))]) (pc := 196) (dec_at lsk_229 (k := 110) rfl) rfl ?_
  have g3 := h.1
  have h := h.2
  refine u_ifF (pc := 197) (tgt := 205) (dec_at lsk_229 (k := 111) rfl) rfl (cl_ne g3 (by decide)) (fun e4 => ?_) (fun e4 => ?_)
  · have h := ifT e4 h
    refine u_ld (v := lV l9) (pc := 200) (dec_at lsk_229 (k := 112) rfl) rfl ?_
    refine u_goto (pc := 202) (tgt := 230) (dec_at lsk_229 (k := 113) rfl) rfl ?_
    refine u_sto (lv' := [.ref 271, iV l1, iV l2, iV l3, iV l4, iV l5, iV l6, iV l7, iV l8, lV l9, .retAddr 0, iV l11, lV (u.1 297 ((41 * (l6 - 1)) + l11)), .retAddr 0]) (pc := 230) (dec_at lsk_229 (k := 126) rfl) rfl ?_
    refine u_inc (lv' := [.ref 271, iV l1, iV l2, iV l3, iV l4, iV l5, iV l6, iV l7, iV l8, lV l9, .retAddr 0, iV (l11 + 1), lV (u.1 297 ((41 * (l6 - 1)) + l11)), .retAddr 0]) (pc := 232) (dec_at lsk_229 (k := 127) rfl) rfl (by decide) rfl ?_
    refine u_goto (pc := 235) (tgt := 152) (dec_at lsk_229 (k := 128) rfl) rfl ?_
    exact u_weak (sbK (sbK (sbK (sbK (sbK (sbK (sbK (sbK (sbK (sbK (sbK (sbK (sbD (sbK sb0)))))))))))))) h
  · have h := ifF e4 h
    refine u_ld (v := lV l9) (pc := 205) (dec_at lsk_229 (k := 114) rfl) rfl ?_
    refine u_ld (v := lV (u.1 297 ((41 * (l6 - 1)) + l11))) (pc := 207) (dec_at lsk_229 (k := 115) rfl) rfl ?_
    refine u_ld (v := .ref 271) (pc := 209) (dec_at lsk_229 (k := 116) rfl) rfl ?_
    refine u_ld (v := iV l7) (pc := 210) (dec_at lsk_229 (k := 117) rfl) rfl ?_
    refine u_c (x := 100) (pc := 212) (dec_at lsk_229 (k := 118) rfl) rfl (by decide) ?_
    refine u_isub (pc := 214) (dec_at lsk_229 (k := 119) rfl) ?_
    refine u_ld (v := iV l11) (pc := 215) (dec_at lsk_229 (k := 120) rfl) rfl ?_
    refine u_ld (v := iV l8) (pc := 217) (dec_at lsk_229 (k := 121) rfl) rfl ?_
    refine u_ld (v := iV l4) (pc := 219) (dec_at lsk_229 (k := 122) rfl) rfl ?_
    refine u_cvL (As := [iV (l7 - 100), iV l11, iV l8, iV l4]) (rb := 271) (st2 := [lV (u.1 297 ((41 * (l6 - 1)) + l11)), lV l9]) (pc := 221) (dec_at lsk_229 (k := 123) rfl) m_12_348 (Or.inl rfl) rfl (Nat.le_of_ble_eq_true rfl) sx_271 me_230 rfl ?_ (fun _ _ h_ => h_)
    refine u_of me_230 (Nat.le_of_ble_eq_true rfl) ?_
    refine u_ld (v := iV l11) (pc := 0) (dec_at lsk_230 (k := 0) rfl) rfl ?_
    refine u_ld (v := iV l8) (pc := 1) (dec_at lsk_230 (k := 1) rfl) rfl ?_
    have g5 := h.1
    have h := h.2
    have g6 := h.1
    have h := h.2
    refine u_icF (pc := 2) (tgt := 14) (dec_at lsk_230 (k := 2) rfl) rfl (ci_ne g5 g6) (fun e7 => ?_) (fun e7 => ?_)
    · have h := ifT e7 h
      refine u_ld (v := .ref 271) (pc := 5) (dec_at lsk_230 (k := 3) rfl) rfl ?_
      refine u_gS (o := 21) (p := 292) (pc := 6) (dec_at lsk_230 (k := 4) rfl) f_12_72 sx_271 rfl rfl ?_
      refine u_ld (v := iV (l7 - 100)) (pc := 9) (dec_at lsk_230 (k := 5) rfl) rfl ?_
      have g8 := h.1
      have h := h.2
      have g9 := h.1
      have h := h.2
      refine u_lald (pc := 10) (dec_at lsk_230 (k := 6) rfl) sx_292 g8 g9 ?_
      refine u_goto (pc := 11) (tgt := 46) (dec_at lsk_230 (k := 7) rfl) rfl ?_
      refine u_rL (pc := 46) (dec_at lsk_230 (k := 27) rfl) rfl ?_
      have g10 := h.1
      have h := h.2
      have g11 := h.1
      have h := h.2
      refine u_csL (As := [lV (u.1 297 ((41 * (l6 - 1)) + l11)), lV (u.1 292 (l7 - 100))]) (st2 := [lV l9]) (pc := 224) (dec_at lsk_229 (k := 124) rfl) m_12_345 (Or.inl rfl) rfl (Nat.le_of_ble_eq_true rfl) (p_227 g10 g11) (fun r_ u_ h_ => ?_)
      rw [h_.1, h_.2]
      have g12 := h.1
      have h := h.2
      refine u_csL (As := [lV l9, lV (tm 5000000000000000000 (u.1 297 ((41 * (l6 - 1)) + l11)) (u.1 292 (l7 - 100)))]) (st2 := []) (pc := 227) (dec_at lsk_229 (k := 125) rfl) m_12_323 (Or.inl rfl) rfl (Nat.le_of_ble_eq_true rfl) (p_217 g12 (cn_tm g10 g11)) (fun r_ u_ h_ => ?_)
      rw [h_.1, h_.2]
      refine u_sto (lv' := [.ref 271, iV l1, iV l2, iV l3, iV l4, iV l5, iV l6, iV l7, iV l8, lV (pl 5000000000000000000 l9 (tm 5000000000000000000 (u.1 297 ((41 * (l6 - 1)) + l11)) (u.1 292 (l7 - 100)))), .retAddr 0, iV l11, lV (u.1 297 ((41 * (l6 - 1)) + l11)), .retAddr 0]) (pc := 230) (dec_at lsk_229 (k := 126) rfl) rfl ?_
      refine u_inc (lv' := [.ref 271, iV l1, iV l2, iV l3, iV l4, iV l5, iV l6, iV l7, iV l8, lV (pl 5000000000000000000 l9 (tm 5000000000000000000 (u.1 297 ((41 * (l6 - 1)) + l11)) (u.1 292 (l7 - 100)))), .retAddr 0, iV (l11 + 1), lV (u.1 297 ((41 * (l6 - 1)) + l11)), .retAddr 0]) (pc := 232) (dec_at lsk_229 (k := 127) rfl) rfl (by decide) rfl ?_
      refine u_goto (pc := 235) (tgt := 152) (dec_at lsk_229 (k := 128) rfl) rfl ?_
      exact u_weak (sbK (sbK (sbK (sbK (sbK (sbK (sbK (sbK (sbK (sbK (sbK (sbK (sbD (sbK sb0)))))))))))))) h
    · have h := ifF e7 h
      refine u_ld (v := iV l4) (pc := 14) (dec_at lsk_230 (k := 8) rfl) rfl ?_
      have g13 := h.1
      have h := h.2
      refine u_ifT (pc := 16) (tgt := 35) (dec_at lsk_230 (k := 9) rfl) rfl (c0_eq g13) (fun e14 => ?_) (fun e14 => ?_)
      · have h := ifT e14 h
        refine u_ld (v := .ref 271) (pc := 35) (dec_at lsk_230 (k := 20) rfl) rfl ?_
        refine u_gS (o := 25) (p := 296) (pc := 36) (dec_at lsk_230 (k := 21) rfl) f_12_84 sx_271 rfl rfl ?_
        refine u_ld (v := iV (l7 - 100)) (pc := 39) (dec_at lsk_230 (k := 22) rfl) rfl ?_
        refine u_ld (v := iV l11) (pc := 40) (dec_at lsk_230 (k := 23) rfl) rfl ?_
        refine u_ld (v := iV l8) (pc := 41) (dec_at lsk_230 (k := 24) rfl) rfl ?_
        refine u_csI (As := [iV (l7 - 100), iV l11, iV l8]) (st2 := [.ref 296]) (pc := 42) (dec_at lsk_230 (k := 25) rfl) m_12_352 (Or.inl rfl) rfl (Nat.le_of_ble_eq_true rfl) ?_ (fun _ _ h_ => h_)
        refine u_of me_231 (Nat.le_of_ble_eq_true rfl) ?_
        refine u_ld (v := iV (l7 - 100)) (pc := 0) (dec_at lsk_231 (k := 0) rfl) rfl ?_
        refine u_c (x := 41) (pc := 1) (dec_at lsk_231 (k := 1) rfl) rfl (by decide) ?_
        refine u_imul (pc := 3) (dec_at lsk_231 (k := 2) rfl) ?_
        refine u_ld (v := iV l11) (pc := 4) (dec_at lsk_231 (k := 3) rfl) rfl ?_
        refine u_iadd (pc := 5) (dec_at lsk_231 (k := 4) rfl) ?_
        refine u_c (x := 41) (pc := 6) (dec_at lsk_231 (k := 5) rfl) rfl (by decide) ?_
        refine u_imul (pc := 8) (dec_at lsk_231 (k := 6) rfl) ?_
        refine u_ld (v := iV l8) (pc := 9) (dec_at lsk_231 (k := 7) rfl) rfl ?_
        refine u_iadd (pc := 10) (dec_at lsk_231 (k := 8) rfl) ?_
        refine u_rI (pc := 11) (dec_at lsk_231 (k := 9) rfl) rfl ?_
        have g15 := h.1
        have h := h.2
        have g16 := h.1
        have h := h.2
        refine u_lald (pc := 45) (dec_at lsk_230 (k := 26) rfl) sx_296 g15 g16 ?_
        refine u_rL (pc := 46) (dec_at lsk_230 (k := 27) rfl) rfl ?_
        have g17 := h.1
        have h := h.2
        have g18 := h.1
        have h := h.2
        refine u_csL (As := [lV (u.1 297 ((41 * (l6 - 1)) + l11)), lV (u.1 296 (((((l7 - 100) * 41) + l11) * 41) + l8))]) (st2 := [lV l9]) (pc := 224) (dec_at lsk_229 (k := 124) rfl) m_12_345 (Or.inl rfl) rfl (Nat.le_of_ble_eq_true rfl) (p_227 g17 g18) (fun r_ u_ h_ => ?_)
        rw [h_.1, h_.2]
        have g19 := h.1
        have h := h.2
        refine u_csL (As := [lV l9, lV (tm 5000000000000000000 (u.1 297 ((41 * (l6 - 1)) + l11)) (u.1 296 (((((l7 - 100) * 41) + l11) * 41) + l8)))]) (st2 := []) (pc := 227) (dec_at lsk_229 (k := 125) rfl) m_12_323 (Or.inl rfl) rfl (Nat.le_of_ble_eq_true rfl) (p_217 g19 (cn_tm g17 g18)) (fun r_ u_ h_ => ?_)
        rw [h_.1, h_.2]
        refine u_sto (lv' := [.ref 271, iV l1, iV l2, iV l3, iV l4, iV l5, iV l6, iV l7, iV l8, lV (pl 5000000000000000000 l9 (tm 5000000000000000000 (u.1 297 ((41 * (l6 - 1)) + l11)) (u.1 296 (((((l7 - 100) * 41) + l11) * 41) + l8)))), .retAddr 0, iV l11, lV (u.1 297 ((41 * (l6 - 1)) + l11)), .retAddr 0]) (pc := 230) (dec_at lsk_229 (k := 126) rfl) rfl ?_
        refine u_inc (lv' := [.ref 271, iV l1, iV l2, iV l3, iV l4, iV l5, iV l6, iV l7, iV l8, lV (pl 5000000000000000000 l9 (tm 5000000000000000000 (u.1 297 ((41 * (l6 - 1)) + l11)) (u.1 296 (((((l7 - 100) * 41) + l11) * 41) + l8)))), .retAddr 0, iV (l11 + 1), lV (u.1 297 ((41 * (l6 - 1)) + l11)), .retAddr 0]) (pc := 232) (dec_at lsk_229 (k := 127) rfl) rfl (by decide) rfl ?_
        refine u_goto (pc := 235) (tgt := 152) (dec_at lsk_229 (k := 128) rfl) rfl ?_
        exact u_weak (sbK (sbK (sbK (sbK (sbK (sbK (sbK (sbK (sbK (sbK (sbK (sbK (sbD (sbK sb0)))))))))))))) h
      · have h := ifF e14 h
        refine u_ld (v := .ref 271) (pc := 19) (dec_at lsk_230 (k := 10) rfl) rfl ?_
        refine u_gS (o := 25) (p := 296) (pc := 20) (dec_at lsk_230 (k := 11) rfl) f_12_84 sx_271 rfl rfl ?_
        refine u_ld (v := iV (l7 - 100)) (pc := 23) (dec_at lsk_230 (k := 12) rfl) rfl ?_
        refine u_ld (v := iV 0) (pc := 24) (dec_at lsk_230 (k := 13) rfl) rfl ?_
        refine u_ld (v := iV l8) (pc := 25) (dec_at lsk_230 (k := 14) rfl) rfl ?_
        refine u_ld (v := iV l11) (pc := 26) (dec_at lsk_230 (k := 15) rfl) rfl ?_
        refine u_isub (pc := 27) (dec_at lsk_230 (k := 16) rfl) ?_
        refine u_csI (As := [iV (l7 - 100), iV 0, iV (l8 - l11)]) (st2 := [.ref 296]) (pc := 28) (dec_at lsk_230 (k := 17) rfl) m_12_352 (Or.inl rfl) rfl (Nat.le_of_ble_eq_true rfl) ?_ (fun _ _ h_ => h_)
        refine u_of me_231 (Nat.le_of_ble_eq_true rfl) ?_
        refine u_ld (v := iV (l7 - 100)) (pc := 0) (dec_at lsk_231 (k := 0) rfl) rfl ?_
        refine u_c (x := 41) (pc := 1) (dec_at lsk_231 (k := 1) rfl) rfl (by decide) ?_
        refine u_imul (pc := 3) (dec_at lsk_231 (k := 2) rfl) ?_
        refine u_ld (v := iV 0) (pc := 4) (dec_at lsk_231 (k := 3) rfl) rfl ?_
        refine u_iadd (pc := 5) (dec_at lsk_231 (k := 4) rfl) ?_
        refine u_c (x := 41) (pc := 6) (dec_at lsk_231 (k := 5) rfl) rfl (by decide) ?_
        refine u_imul (pc := 8) (dec_at lsk_231 (k := 6) rfl) ?_
        refine u_ld (v := iV (l8 - l11)) (pc := 9) (dec_at lsk_231 (k := 7) rfl) rfl ?_
        refine u_iadd (pc := 10) (dec_at lsk_231 (k := 8) rfl) ?_
        refine u_rI (pc := 11) (dec_at lsk_231 (k := 9) rfl) rfl ?_
        have g20 := h.1
        have h := h.2
        have g21 := h.1
        have h := h.2
        refine u_lald (pc := 31) (dec_at lsk_230 (k := 18) rfl) sx_296 g20 g21 ?_
        refine u_goto (pc := 32) (tgt := 46) (dec_at lsk_230 (k := 19) rfl) rfl ?_
        refine u_rL (pc := 46) (dec_at lsk_230 (k := 27) rfl) rfl ?_
        have g22 := h.1
        have h := h.2
        have g23 := h.1
        have h := h.2
        refine u_csL (As := [lV (u.1 297 ((41 * (l6 - 1)) + l11)), lV (u.1 296 (((((l7 - 100) * 41) + 0) * 41) + (l8 - l11)))]) (st2 := [lV l9]) (pc := 224) (dec_at lsk_229 (k := 124) rfl) m_12_345 (Or.inl rfl) rfl (Nat.le_of_ble_eq_true rfl) (p_227 g22 g23) (fun r_ u_ h_ => ?_)
        rw [h_.1, h_.2]
        have g24 := h.1
        have h := h.2
        refine u_csL (As := [lV l9, lV (tm 5000000000000000000 (u.1 297 ((41 * (l6 - 1)) + l11)) (u.1 296 (((((l7 - 100) * 41) + 0) * 41) + (l8 - l11))))]) (st2 := []) (pc := 227) (dec_at lsk_229 (k := 125) rfl) m_12_323 (Or.inl rfl) rfl (Nat.le_of_ble_eq_true rfl) (p_217 g24 (cn_tm g22 g23)) (fun r_ u_ h_ => ?_)
        rw [h_.1, h_.2]
        refine u_sto (lv' := [.ref 271, iV l1, iV l2, iV l3, iV l4, iV l5, iV l6, iV l7, iV l8, lV (pl 5000000000000000000 l9 (tm 5000000000000000000 (u.1 297 ((41 * (l6 - 1)) + l11)) (u.1 296 (((((l7 - 100) * 41) + 0) * 41) + (l8 - l11))))), .retAddr 0, iV l11, lV (u.1 297 ((41 * (l6 - 1)) + l11)), .retAddr 0]) (pc := 230) (dec_at lsk_229 (k := 126) rfl) rfl ?_
        refine u_inc (lv' := [.ref 271, iV l1, iV l2, iV l3, iV l4, iV l5, iV l6, iV l7, iV l8, lV (pl 5000000000000000000 l9 (tm 5000000000000000000 (u.1 297 ((41 * (l6 - 1)) + l11)) (u.1 296 (((((l7 - 100) * 41) + 0) * 41) + (l8 - l11))))), .retAddr 0, iV (l11 + 1), lV (u.1 297 ((41 * (l6 - 1)) + l11)), .retAddr 0]) (pc := 232) (dec_at lsk_229 (k := 127) rfl) rfl (by decide) rfl ?_
        refine u_goto (pc := 235) (tgt := 152) (dec_at lsk_229 (k := 128) rfl) rfl ?_
        exact u_weak (sbK (sbK (sbK (sbK (sbK (sbK (sbK (sbK (sbK (sbK (sbK (sbK (sbD (sbK sb0)))))))))))))) h
/-- method 232 -/
def K_232 (d pc : Nat) (lv : ev_L) (st : List Value) (u : uS) (Q : uS → Prop) : Prop := okU d 12 11 false none prog_14_method_32_code (qV Q) pc lv st u
theorem e_232 {d : Nat} {Q : uS → Prop} {u : uS} {l1 l2 l3 : Int} (h : K_232 (d + 1) 3 [.ref 271, iV l1, iV l2, iV l3, iV 0, .retAddr 0, .retAddr 0, .retAddr 0, .retAddr 0, .retAddr 0, .retAddr 0] [] u Q) : cV (d + 2) 232 [.ref 271, iV l1, iV l2, iV l3] u Q := by
  refine u_of me_232 (Nat.le_of_ble_eq_true rfl) ?_
  refine u_ld (v := iV 0) (pc := 0) (dec_at lsk_232 (k := 0) rfl) rfl ?_
  refine u_sto (lv' := [.ref 271, iV l1, iV l2, iV l3, iV 0, .retAddr 0, .retAddr 0, .retAddr 0, .retAddr 0, .retAddr 0, .retAddr 0]) (pc := 1) (dec_at lsk_232 (k := 1) rfl) rfl ?_
  exact h
theorem k_232_3 {d : Nat} {Q : uS → Prop} {u : uS} {l1 l2 l3 l4 : Int} (h : (rI l4) ∧ (if l4 < 100 then ((0 ≤ l4) ∧ ((rL (u.1 298 l4)) ∧ (if 0 < u.1 298 l4 then ((0 ≤ l4.tmod 10) ∧ ((l4.tmod 10 < 10) ∧ ((rI (u.1 300 (l4.tmod 10))) ∧ (if u.1 300 (l4.tmod 10) = 0 then (∀ u10 : uS, u10 = wr u 293 l4 0 → (K_232 (d + 1) 3 [.ref 271, iV l1, iV l2, iV l3, iV (l4 + 1), .retAddr 0, .retAddr 0, .retAddr 0, .retAddr 0, .retAddr 0, .retAddr 0] [] u10 Q)) else ((0 ≤ l4.tdiv 10) ∧ ((l4.tdiv 10 < 10) ∧ ((rI (u.1 300 (l4.tdiv 10))) ∧ (if u.1 300 (l4.tdiv 10) = 0 then (∀ u16 : uS, u16 = wr u 293 l4 0 → (K_232 (d + 1) 3 [.ref 271, iV l1, iV l2, iV l3, iV (l4 + 1), .retAddr 0, .retAddr 0, .retAddr 0, .retAddr 0, .retAddr 0, .retAddr 0] [] u16 Q)) else (∀ u18 : uS, u18 = wr u 293 l4 1 → (K_232 (d + 1) 3 [.ref 271, iV l1, iV l2, iV l3, iV (l4 + 1), .retAddr 0, .retAddr 0, .retAddr 0, .retAddr 0, .retAddr 0, .retAddr 0] [] u18 Q)))))))))) else (∀ u20 : uS, u20 = wr u 293 l4 0 → (K_232 (d + 1) 3 [.ref 271, iV l1, iV l2, iV l3, iV (l4 + 1), .retAddr 0, .retAddr 0, .retAddr 0, .retAddr 0, .retAddr 0, .retAddr 0] [] u20 Q))))) else (cV (d + 1) 226 [.ref 271, .ref 300] u (fun u22 => (rI l3) ∧ (if l3 = 0 then (K_232 (d + 1) 101 [.ref 271, .retAddr 0, .retAddr 0, .retAddr 0, iV l1, iV l2, iV 0, .retAddr 0, .retAddr 0, .retAddr 0, .retAddr 0] [] u22 Q) else (K_232 (d + 1) 101 [.ref 271, .retAddr 0, .retAddr 0, .retAddr 0, iV 0, iV (l2 - l1), iV 0, .retAddr 0, .retAddr 0, .retAddr 0, .retAddr 0] [] u22 Q)))))) : K_232 (d + 1) 3 [.ref 271, iV l1, iV l2, iV l3, iV l4, .retAddr 0, .retAddr 0, .retAddr 0, .retAddr 0, .retAddr 0, .retAddr 0] [] u Q := by
  unfold K_232
  refine u_ld (v := iV l4) (pc := 3) (dec_at lsk_232 (k := 2) rfl) rfl ?_
  refine u_c (x := 100) (pc := 5) (dec_at lsk_232 (k := 3) rfl) rfl (by decide) ?_
  have g1 := h.1
  have h := h.2
  refine u_icF (pc := 7) (tgt := 66) (dec_at lsk_232 (k := 4) rfl) rfl (ci_ge g1 (by decide)) (fun e2 => ?_) (fun e2 => ?_)
  · have h := ifT e2 h
    refine u_ld (v := .ref 271) (pc := 10) (dec_at lsk_232 (k := 5) rfl) rfl ?_
    refine u_gS (o := 22) (p := 293) (pc := 11) (dec_at lsk_232 (k := 6) rfl) f_12_75 sx_271 rfl rfl ?_
    refine u_ld (v := iV l4) (pc := 14) (dec_at lsk_232 (k := 7) rfl) rfl ?_
    refine u_ld (v := .ref 271) (pc := 16) (dec_at lsk_232 (k := 8) rfl) rfl ?_
    refine u_gS (o := 27) (p := 298) (pc := 17) (dec_at lsk_232 (k := 9) rfl) f_12_90 sx_271 rfl rfl ?_
    refine u_ld (v := iV l4) (pc := 20) (dec_at lsk_232 (k := 10) rfl) rfl ?_
    have g3 := h.1
    have h := h.2
    refine u_lald (pc := 22) (dec_at lsk_232 (k := 11) rfl) sx_298 g3 e2 ?_
    refine u_cl (x := 0) (pc := 23) (dec_at lsk_232 (k := 12) rfl) rfl (by decide) ?_
    refine u_st (st' := [.int (lg_cmp (Int64.ofInt (u.1 298 l4)) (Int64.ofInt 0)), iV l4, .ref 293]) (pc := 24) (dec_at lsk_232 (k := 13) rfl) rfl ?_
    have g4 := h.1
    have h := h.2
    refine u_ifF (pc := 25) (tgt := 58) (dec_at lsk_232 (k := 14) rfl) rfl (cl_le g4 (by decide)) (fun e5 => ?_) (fun e5 => ?_)
    · have h := ifT e5 h
      refine u_ld (v := .ref 271) (pc := 28) (dec_at lsk_232 (k := 15) rfl) rfl ?_
      refine u_gS (o := 29) (p := 300) (pc := 29) (dec_at lsk_232 (k := 16) rfl) f_12_96 sx_271 rfl rfl ?_
      refine u_ld (v := iV l4) (pc := 32) (dec_at lsk_232 (k := 17) rfl) rfl ?_
      refine u_c (x := 10) (pc := 34) (dec_at lsk_232 (k := 18) rfl) rfl (by decide) ?_
      refine u_irem (pc := 36) (dec_at lsk_232 (k := 19) rfl) g1 (by decide) (by decide) ?_
      have g6 := h.1
      have h := h.2
      have g7 := h.1
      have h := h.2
      refine u_zald (pc := 37) (dec_at lsk_232 (k := 20) rfl) sx_300 g6 g7 ?_
      have g8 := h.1
      have h := h.2
      refine u_ifT (pc := 38) (tgt := 58) (dec_at lsk_232 (k := 21) rfl) rfl (c0_eq g8) (fun e9 => ?_) (fun e9 => ?_)
      · have h := ifT e9 h
        refine u_ld (v := iV 0) (pc := 58) (dec_at lsk_232 (k := 31) rfl) rfl ?_
        refine u_zast (pc := 59) (dec_at lsk_232 (k := 32) rfl) sx_293 g3 e2 (by decide) (fun u10 e11 => ?_)
        have h := h u10 e11
        refine u_inc (lv' := [.ref 271, iV l1, iV l2, iV l3, iV (l4 + 1), .retAddr 0, .retAddr 0, .retAddr 0, .retAddr 0, .retAddr 0, .retAddr 0]) (pc := 60) (dec_at lsk_232 (k := 33) rfl) rfl (by decide) rfl ?_
        refine u_goto (pc := 63) (tgt := 3) (dec_at lsk_232 (k := 34) rfl) rfl ?_
        exact h
      · have h := ifF e9 h
        refine u_ld (v := .ref 271) (pc := 41) (dec_at lsk_232 (k := 22) rfl) rfl ?_
        refine u_gS (o := 29) (p := 300) (pc := 42) (dec_at lsk_232 (k := 23) rfl) f_12_96 sx_271 rfl rfl ?_
        refine u_ld (v := iV l4) (pc := 45) (dec_at lsk_232 (k := 24) rfl) rfl ?_
        refine u_c (x := 10) (pc := 47) (dec_at lsk_232 (k := 25) rfl) rfl (by decide) ?_
        refine u_idiv (pc := 49) (dec_at lsk_232 (k := 26) rfl) g1 (by decide) (by decide) ?_
        have g12 := h.1
        have h := h.2
        have g13 := h.1
        have h := h.2
        refine u_zald (pc := 50) (dec_at lsk_232 (k := 27) rfl) sx_300 g12 g13 ?_
        have g14 := h.1
        have h := h.2
        refine u_ifT (pc := 51) (tgt := 58) (dec_at lsk_232 (k := 28) rfl) rfl (c0_eq g14) (fun e15 => ?_) (fun e15 => ?_)
        · have h := ifT e15 h
          refine u_ld (v := iV 0) (pc := 58) (dec_at lsk_232 (k := 31) rfl) rfl ?_
          refine u_zast (pc := 59) (dec_at lsk_232 (k := 32) rfl) sx_293 g3 e2 (by decide) (fun u16 e17 => ?_)
          have h := h u16 e17
          refine u_inc (lv' := [.ref 271, iV l1, iV l2, iV l3, iV (l4 + 1), .retAddr 0, .retAddr 0, .retAddr 0, .retAddr 0, .retAddr 0, .retAddr 0]) (pc := 60) (dec_at lsk_232 (k := 33) rfl) rfl (by decide) rfl ?_
          refine u_goto (pc := 63) (tgt := 3) (dec_at lsk_232 (k := 34) rfl) rfl ?_
          exact h
        · have h := ifF e15 h
          refine u_ld (v := iV 1) (pc := 54) (dec_at lsk_232 (k := 29) rfl) rfl ?_
          refine u_goto (pc := 55) (tgt := 59) (dec_at lsk_232 (k := 30) rfl) rfl ?_
          refine u_zast (pc := 59) (dec_at lsk_232 (k := 32) rfl) sx_293 g3 e2 (by decide) (fun u18 e19 => ?_)
          have h := h u18 e19
          refine u_inc (lv' := [.ref 271, iV l1, iV l2, iV l3, iV (l4 + 1), .retAddr 0, .retAddr 0, .retAddr 0, .retAddr 0, .retAddr 0, .retAddr 0]) (pc := 60) (dec_at lsk_232 (k := 33) rfl) rfl (by decide) rfl ?_
          refine u_goto (pc := 63) (tgt := 3) (dec_at lsk_232 (k := 34) rfl) rfl ?_
          exact h
    · have h := ifF e5 h
      refine u_ld (v := iV 0) (pc := 58) (dec_at lsk_232 (k := 31) rfl) rfl ?_
      refine u_zast (pc := 59) (dec_at lsk_232 (k := 32) rfl) sx_293 g3 e2 (by decide) (fun u20 e21 => ?_)
      have h := h u20 e21
      refine u_inc (lv' := [.ref 271, iV l1, iV l2, iV l3, iV (l4 + 1), .retAddr 0, .retAddr 0, .retAddr 0, .retAddr 0, .retAddr 0, .retAddr 0]) (pc := 60) (dec_at lsk_232 (k := 33) rfl) rfl (by decide) rfl ?_
      refine u_goto (pc := 63) (tgt := 3) (dec_at lsk_232 (k := 34) rfl) rfl ?_
      exact h
  · have h := ifF e2 h
    refine u_ld (v := .ref 271) (pc := 66) (dec_at lsk_232 (k := 35) rfl) rfl ?_
    refine u_ld (v := .ref 271) (pc := 67) (dec_at lsk_232 (k := 36) rfl) rfl ?_
    refine u_gS (o := 29) (p := 300) (pc := 68) (dec_at lsk_232 (k := 37) rfl) f_12_96 sx_271 rfl rfl ?_
    refine u_cvV (As := [.ref 300]) (rb := 271) (st2 := []) (pc := 71) (dec_at lsk_232 (k := 38) rfl) m_12_341 (Or.inl rfl) rfl (Nat.le_of_ble_eq_true rfl) sx_271 me_226 rfl h (fun u22 h => ?_)
    refine u_ld (v := iV l3) (pc := 74) (dec_at lsk_232 (k := 39) rfl) rfl ?_
    have g23 := h.1
    have h := h.2
    refine u_ifT (pc := 75) (tgt := 82) (dec_at lsk_232 (k := 40) rfl) rfl (c0_eq g23) (fun e24 => ?_) (fun e24 => ?_)
    · have h := ifT e24 h
      refine u_ld (v := iV l1) (pc := 82) (dec_at lsk_232 (k := 43) rfl) rfl ?_
      refine u_sto (lv' := [.ref 271, iV l1, iV l2, iV l3, iV l1, .retAddr 0, .retAddr 0, .retAddr 0, .retAddr 0, .retAddr 0, .retAddr 0]) (pc := 83) (dec_at lsk_232 (k := 44) rfl) rfl ?_
      refine u_ld (v := iV l3) (pc := 85) (dec_at lsk_232 (k := 45) rfl) rfl ?_
      refine u_ifT (pc := 86) (tgt := 95) (dec_at lsk_232 (k := 46) rfl) rfl (c0_eq g23) (fun _ => ?_) (fun e25 => absurd e24 e25)
      refine u_ld (v := iV l2) (pc := 95) (dec_at lsk_232 (k := 51) rfl) rfl ?_
      refine u_sto (lv' := [.ref 271, iV l1, iV l2, iV l3, iV l1, iV l2, .retAddr 0, .retAddr 0, .retAddr 0, .retAddr 0, .retAddr 0]) (pc := 96) (dec_at lsk_232 (k := 52) rfl) rfl ?_
      refine u_ld (v := iV 0) (pc := 98) (dec_at lsk_232 (k := 53) rfl) rfl ?_
      refine u_sto (lv' := [.ref 271, iV l1, iV l2, iV l3, iV l1, iV l2, iV 0, .retAddr 0, .retAddr 0, .retAddr 0, .retAddr 0]) (pc := 99) (dec_at lsk_232 (k := 54) rfl) rfl ?_
      exact u_weak (sbK (sbD (sbD (sbD (sbK (sbK (sbK (sbK (sbK (sbK (sbK sb0))))))))))) h
    · have h := ifF e24 h
      refine u_ld (v := iV 0) (pc := 78) (dec_at lsk_232 (k := 41) rfl) rfl ?_
      refine u_goto (pc := 79) (tgt := 83) (dec_at lsk_232 (k := 42) rfl) rfl ?_
      refine u_sto (lv' := [.ref 271, iV l1, iV l2, iV l3, iV 0, .retAddr 0, .retAddr 0, .retAddr 0, .retAddr 0, .retAddr 0, .retAddr 0]) (pc := 83) (dec_at lsk_232 (k := 44) rfl) rfl ?_
      refine u_ld (v := iV l3) (pc := 85) (dec_at lsk_232 (k := 45) rfl) rfl ?_
      refine u_ifT (pc := 86) (tgt := 95) (dec_at lsk_232 (k := 46) rfl) rfl (c0_eq g23) (fun e26 => absurd e26 e24) (fun _ => ?_)
      refine u_ld (v := iV l2) (pc := 89) (dec_at lsk_232 (k := 47) rfl) rfl ?_
      refine u_ld (v := iV l1) (pc := 90) (dec_at lsk_232 (k := 48) rfl) rfl ?_
      refine u_isub (pc := 91) (dec_at lsk_232 (k := 49) rfl) ?_
      refine u_goto (pc := 92) (tgt := 96) (dec_at lsk_232 (k := 50) rfl) rfl ?_
      refine u_sto (lv' := [.ref 271, iV l1, iV l2, iV l3, iV 0, iV (l2 - l1), .retAddr 0, .retAddr 0, .retAddr 0, .retAddr 0, .retAddr 0]) (pc := 96) (dec_at lsk_232 (k := 52) rfl) rfl ?_
      refine u_ld (v := iV 0) (pc := 98) (dec_at lsk_232 (k := 53) rfl) rfl ?_
      refine u_sto (lv' := [.ref 271, iV l1, iV l2, iV l3, iV 0, iV (l2 - l1), iV 0, .retAddr 0, .retAddr 0, .retAddr 0, .retAddr 0]) (pc := 99) (dec_at lsk_232 (k := 54) rfl) rfl ?_
      exact u_weak (sbK (sbD (sbD (sbD (sbK (sbK (sbK (sbK (sbK (sbK (sbK sb0))))))))))) h
theorem k_232_101 {d : Nat} {Q : uS → Prop} {u : uS} {l4 l5 l6 : Int} (h : (rI l6) ∧ (if l6 < 10 then ((0 ≤ l6) ∧ ((rI (u.1 300 l6)) ∧ (if u.1 300 l6 = 0 then ((0 ≤ (((l6 * 41) + l4) * 41) + l5) ∧ (((((l6 * 41) + l4) * 41) + l5 < 16810) ∧ (∀ u8 : uS, u8 = wr u 296 ((((l6 * 41) + l4) * 41) + l5) 0 → (K_232 (d + 1) 101 [.ref 271, .retAddr 0, .retAddr 0, .retAddr 0, iV l4, iV l5, iV (l6 + 1), .retAddr 0, .retAddr 0, .retAddr 0, .retAddr 0] [] u8 Q)))) else ((0 ≤ (((l6 * 41) + l4) * 41) + l5) ∧ (((((l6 * 41) + l4) * 41) + l5 < 16810) ∧ (∀ u12 : uS, u12 = wr u 296 ((((l6 * 41) + l4) * 41) + l5) 5000000000000000000 → (K_232 (d + 1) 101 [.ref 271, .retAddr 0, .retAddr 0, .retAddr 0, iV l4, iV l5, iV (l6 + 1), .retAddr 0, .retAddr 0, .retAddr 0, .retAddr 0] [] u12 Q))))))) else (K_232 (d + 1) 148 [.ref 271, .retAddr 0, .retAddr 0, .retAddr 0, iV l4, iV l5, iV 0, .retAddr 0, .retAddr 0, .retAddr 0, .retAddr 0] [] u Q))) : K_232 (d + 1) 101 [.ref 271, .retAddr 0, .retAddr 0, .retAddr 0, iV l4, iV l5, iV l6, .retAddr 0, .retAddr 0, .retAddr 0, .retAddr 0] [] u Q := by
  unfold K_232
  refine u_ld (v := iV l6) (pc := 101) (dec_at lsk_232 (k := 55) rfl) rfl ?_
  refine u_c (x := 10) (pc := 103) (dec_at lsk_232 (k := 56) rfl) rfl (by decide) ?_
  have g1 := h.1
  have h := h.2
  refine u_icF (pc := 105) (tgt := 145) (dec_at lsk_232 (k := 57) rfl) rfl (ci_ge g1 (by decide)) (fun e2 => ?_) (fun e2 => ?_)
  · have h := ifT e2 h
    refine u_ld (v := .ref 271) (pc := 108) (dec_at lsk_232 (k := 58) rfl) rfl ?_
    refine u_gS (o := 25) (p := 296) (pc := 109) (dec_at lsk_232 (k := 59) rfl) f_12_84 sx_271 rfl rfl ?_
    refine u_ld (v := iV l6) (pc := 112) (dec_at lsk_232 (k := 60) rfl) rfl ?_
    refine u_ld (v := iV l4) (pc := 114) (dec_at lsk_232 (k := 61) rfl) rfl ?_
    refine u_ld (v := iV l5) (pc := 116) (dec_at lsk_232 (k := 62) rfl) rfl ?_
    refine u_csI (As := [iV l6, iV l4, iV l5]) (st2 := [.ref 296]) (pc := 118) (dec_at lsk_232 (k := 63) rfl) m_12_352 (Or.inl rfl) rfl (Nat.le_of_ble_eq_true rfl) ?_ (fun _ _ h_ => h_)
    refine u_of me_231 (Nat.le_of_ble_eq_true rfl) ?_
    refine u_ld (v := iV l6) (pc := 0) (dec_at lsk_231 (k := 0) rfl) rfl ?_
    refine u_c (x := 41) (pc := 1) (dec_at lsk_231 (k := 1) rfl) rfl (by decide) ?_
    refine u_imul (pc := 3) (dec_at lsk_231 (k := 2) rfl) ?_
    refine u_ld (v := iV l4) (pc := 4) (dec_at lsk_231 (k := 3) rfl) rfl ?_
    refine u_iadd (pc := 5) (dec_at lsk_231 (k := 4) rfl) ?_
    refine u_c (x := 41) (pc := 6) (dec_at lsk_231 (k := 5) rfl) rfl (by decide) ?_
    refine u_imul (pc := 8) (dec_at lsk_231 (k := 6) rfl) ?_
    refine u_ld (v := iV l5) (pc := 9) (dec_at lsk_231 (k := 7) rfl) rfl ?_
    refine u_iadd (pc := 10) (dec_at lsk_231 (k := 8) rfl) ?_
    refine u_rI (pc := 11) (dec_at lsk_231 (k := 9) rfl) rfl ?_
    refine u_ld (v := .ref 271) (pc := 121) (dec_at lsk_232 (k := 64) rfl) rfl ?_
    refine u_gS (o := 29) (p := 300) (pc := 122) (dec_at lsk_232 (k := 65) rfl) f_12_96 sx_271 rfl rfl ?_
    refine u_ld (v := iV l6) (pc := 125) (dec_at lsk_232 (k := 66) rfl) rfl ?_
    have g3 := h.1
    have h := h.2
    refine u_zald (pc := 127) (dec_at lsk_232 (k := 67) rfl) sx_300 g3 e2 ?_
    have g4 := h.1
    have h := h.2
    refine u_ifT (pc := 128) (tgt := 137) (dec_at lsk_232 (k := 68) rfl) rfl (c0_eq g4) (fun e5 => ?_) (fun e5 => ?_)
    · have h := ifT e5 h
      refine u_cl (x := 0) (pc := 137) (dec_at lsk_232 (k := 71) rfl) rfl (by decide) ?_
      have g6 := h.1
      have h := h.2
      have g7 := h.1
      have h := h.2
      refine u_last (pc := 138) (dec_at lsk_232 (k := 72) rfl) sx_296 g6 g7 (fun u8 e9 => ?_)
      have h := h u8 e9
      refine u_inc (lv' := [.ref 271, .retAddr 0, .retAddr 0, .retAddr 0, iV l4, iV l5, iV (l6 + 1), .retAddr 0, .retAddr 0, .retAddr 0, .retAddr 0]) (pc := 139) (dec_at lsk_232 (k := 73) rfl) rfl (by decide) rfl ?_
      refine u_goto (pc := 142) (tgt := 101) (dec_at lsk_232 (k := 74) rfl) rfl ?_
      exact h
    · have h := ifF e5 h
      refine u_ldc2 (x := 5000000000000000000) (pc := 131) (dec_at lsk_232 (k := 69) rfl) con_12_242 (by decide) ?_
      refine u_goto (pc := 134) (tgt := 138) (dec_at lsk_232 (k := 70) rfl) rfl ?_
      have g10 := h.1
      have h := h.2
      have g11 := h.1
      have h := h.2
      refine u_last (pc := 138) (dec_at lsk_232 (k := 72) rfl) sx_296 g10 g11 (fun u12 e13 => ?_)
      have h := h u12 e13
      refine u_inc (lv' := [.ref 271, .retAddr 0, .retAddr 0, .retAddr 0, iV l4, iV l5, iV (l6 + 1), .retAddr 0, .retAddr 0, .retAddr 0, .retAddr 0]) (pc := 139) (dec_at lsk_232 (k := 73) rfl) rfl (by decide) rfl ?_
      refine u_goto (pc := 142) (tgt := 101) (dec_at lsk_232 (k := 74) rfl) rfl ?_
      exact h
  · have h := ifF e2 h
    refine u_ld (v := iV 0) (pc := 145) (dec_at lsk_232 (k := 75) rfl) rfl ?_
    refine u_sto (lv' := [.ref 271, .retAddr 0, .retAddr 0, .retAddr 0, iV l4, iV l5, iV 0, .retAddr 0, .retAddr 0, .retAddr 0, .retAddr 0]) (pc := 146) (dec_at lsk_232 (k := 76) rfl) rfl ?_
    exact h
theorem k_232_148 {d : Nat} {Q : uS → Prop} {u : uS} {l4 l5 l6 : Int} (h : (rI l6) ∧ ((rI (u.1 271 33)) ∧ (if l6 < u.1 271 33 then ((0 ≤ l6) ∧ ((l6 < 10) ∧ ((0 ≤ u.1 295 l6) ∧ ((u.1 295 l6 < 10) ∧ (K_232 (d + 1) 178 [.ref 271, .retAddr 0, .retAddr 0, .retAddr 0, iV l4, iV l5, iV l6, iV (u.1 295 l6), lV (u.1 299 (u.1 295 l6)), .retAddr 0, iV 0] [] u Q))))) else (Q u)))) : K_232 (d + 1) 148 [.ref 271, .retAddr 0, .retAddr 0, .retAddr 0, iV l4, iV l5, iV l6, .retAddr 0, .retAddr 0, .retAddr 0, .retAddr 0] [] u Q := by
  unfold K_232
  refine u_ld (v := iV l6) (pc := 148) (dec_at lsk_232 (k := 77) rfl) rfl ?_
  refine u_ld (v := .ref 271) (pc := 150) (dec_at lsk_232 (k := 78) rfl) rfl ?_
  refine u_gI (z := 33) (pc := 151) (dec_at lsk_232 (k := 79) rfl) f_12_335 sx_271 rfl rfl ?_
  have g1 := h.1
  have h := h.2
  have g2 := h.1
  have h := h.2
  refine u_icF (pc := 154) (tgt := 268) (dec_at lsk_232 (k := 80) rfl) rfl (ci_ge g1 g2) (fun e3 => ?_) (fun e3 => ?_)
  · have h := ifT e3 h
    refine u_ld (v := .ref 271) (pc := 157) (dec_at lsk_232 (k := 81) rfl) rfl ?_
    refine u_gS (o := 24) (p := 295) (pc := 158) (dec_at lsk_232 (k := 82) rfl) f_12_81 sx_271 rfl rfl ?_
    refine u_ld (v := iV l6) (pc := 161) (dec_at lsk_232 (k := 83) rfl) rfl ?_
    have g4 := h.1
    have h := h.2
    have g5 := h.1
    have h := h.2
    refine u_iald (pc := 163) (dec_at lsk_232 (k := 84) rfl) sx_295 g4 g5 ?_
    refine u_sto (lv' := [.ref 271, .retAddr 0, .retAddr 0, .retAddr 0, iV l4, iV l5, iV l6, iV (u.1 295 l6), .retAddr 0, .retAddr 0, .retAddr 0]) (pc := 164) (dec_at lsk_232 (k := 85) rfl) rfl ?_
    refine u_ld (v := .ref 271) (pc := 166) (dec_at lsk_232 (k := 86) rfl) rfl ?_
    refine u_gS (o := 28) (p := 299) (pc := 167) (dec_at lsk_232 (k := 87) rfl) f_12_93 sx_271 rfl rfl ?_
    refine u_ld (v := iV (u.1 295 l6)) (pc := 170) (dec_at lsk_232 (k := 88) rfl) rfl ?_
    have g6 := h.1
    have h := h.2
    have g7 := h.1
    have h := h.2
    refine u_lald (pc := 172) (dec_at lsk_232 (k := 89) rfl) sx_299 g6 g7 ?_
    refine u_sto (lv' := [.ref 271, .retAddr 0, .retAddr 0, .retAddr 0, iV l4, iV l5, iV l6, iV (u.1 295 l6), lV (u.1 299 (u.1 295 l6)), .retAddr 0, .retAddr 0]) (pc := 173) (dec_at lsk_232 (k := 90) rfl) rfl ?_
    refine u_ld (v := iV 0) (pc := 175) (dec_at lsk_232 (k := 91) rfl) rfl ?_
    refine u_sto (lv' := [.ref 271, .retAddr 0, .retAddr 0, .retAddr 0, iV l4, iV l5, iV l6, iV (u.1 295 l6), lV (u.1 299 (u.1 295 l6)), .retAddr 0, iV 0]) (pc := 176) (dec_at lsk_232 (k := 92) rfl) rfl ?_
    exact h
  · have h := ifF e3 h
    exact u_rV (pc := 268) (dec_at lsk_232 (k := 137) rfl) rfl h
theorem k_232_178 {d : Nat} {Q : uS → Prop} {u : uS} {l4 l5 l6 l7 l8 l10 : Int} (h : (rI l10) ∧ ((rI (u.1 271 5)) ∧ (if l10 < u.1 271 5 then ((0 ≤ (10 * l7) + l10) ∧ (((10 * l7) + l10 < 100) ∧ ((rI (u.1 293 ((10 * l7) + l10))) ∧ (if u.1 293 ((10 * l7) + l10) = 0 then (K_232 (d + 1) 178 [.ref 271, .retAddr 0, .retAddr 0, .retAddr 0, iV l4, iV l5, iV l6, iV l7, lV l8, .retAddr 0, iV (l10 + 1)] [] u Q) else ((0 ≤ (((l10 * 41) + l4) * 41) + l5) ∧ (((((l10 * 41) + l4) * 41) + l5 < 16810) ∧ ((cn 5000000000000000000 (u.1 298 ((10 * l7) + l10))) ∧ ((cn 5000000000000000000 (u.1 296 ((((l10 * 41) + l4) * 41) + l5))) ∧ ((cn 5000000000000000000 l8) ∧ (K_232 (d + 1) 178 [.ref 271, .retAddr 0, .retAddr 0, .retAddr 0, iV l4, iV l5, iV l6, iV l7, lV (pl 5000000000000000000 l8 (tm 5000000000000000000 (u.1 298 ((10 * l7) + l10)) (u.1 296 ((((l10 * 41) + l4) * 41) + l5)))), .retAddr 0, iV (l10 + 1)] [] u Q)))))))))) else ((0 ≤ (((l7 * 41) + l4) * 41) + l5) ∧ (((((l7 * 41) + l4) * 41) + l5 < 16810) ∧ (∀ u15 : uS, u15 = wr u 296 ((((l7 * 41) + l4) * 41) + l5) l8 → (K_232 (d + 1) 148 [.ref 271, .retAddr 0, .retAddr 0, .retAddr 0, iV l4, iV l5, iV (l6 + 1), .retAddr 0, .retAddr 0, .retAddr 0, .retAddr 0] [] u15 Q))))))) : K_232 (d + 1) 178 [.ref 271, .retAddr 0, .retAddr 0, .retAddr 0, iV l4, iV l5, iV l6, iV l7, lV l8, .retAddr 0, iV l10] [] u Q := by
  unfold K_232
  refine u_ld (v := iV l10) (pc := 178) (dec_at lsk_232 (k := 93) rfl) rfl ?_
  refine u_ld (v := .ref 271) (pc := 180) (dec_at lsk_232 (k := 94) rfl) rfl ?_
  refine u_gI (z := 5) (pc := 181) (dec_at lsk_232 (k := 95) rfl) f_12_303 sx_271 rfl rfl ?_
  have g1 := h.1
  have h := h.2
  have g2 := h.1
  have h := h.2
  refine u_icF (pc := 184) (tgt := 246) (dec_at lsk_232 (k := 96) rfl) rfl (ci_ge g1 g2) (fun e3 => ?_) (fun e3 => ?_)
  · have h := ifT e3 h
    refine u_ld (v := .ref 271) (pc := 187) (dec_at lsk_232 (k := 97) rfl) rfl ?_
    refine u_gS (o := 22) (p := 293) (pc := 188) (dec_at lsk_232 (k := 98) rfl) f_12_75 sx_271 rfl rfl ?_
    refine u_c (x := 10) (pc := 191) (dec_at lsk_232 (k := 99) rfl) rfl (by decide) ?_
    refine u_ld (v := iV l7) (pc := 193) (dec_at lsk_232 (k := 100) rfl) rfl ?_
    refine u_imul (pc := 195) (dec_at lsk_232 (k := 101) rfl) ?_
    refine u_ld (v := iV l10) (pc := 196) (dec_at lsk_232 (k := 102) rfl) rfl ?_
    refine u_iadd (pc := 198) (dec_at lsk_232 (k := 103) rfl) ?_
    have g4 := h.1
    have h := h.2
    have g5 := h.1
    have h := h.2
    refine u_zald (pc := 199) (dec_at lsk_232 (k := 104) rfl) sx_293 g4 g5 ?_
    have g6 := h.1
    have h := h.2
    refine u_ifT (pc := 200) (tgt := 240) (dec_at lsk_232 (k := 105) rfl) rfl (c0_eq g6) (fun e7 => ?_) (fun e7 => ?_)
    · have h := ifT e7 h
      refine u_inc (lv' := [.ref 271, .retAddr 0, .retAddr 0, .retAddr 0, iV l4, iV l5, iV l6, iV l7, lV l8, .retAddr 0, iV (l10 + 1)]) (pc := 240) (dec_at lsk_232 (k := 125) rfl) rfl (by decide) rfl ?_
      refine u_goto (pc := 243) (tgt := 178) (dec_at lsk_232 (k := 126) rfl) rfl ?_
      exact h
    · have h := ifF e7 h
      refine u_ld (v := lV l8) (pc := 203) (dec_at lsk_232 (k := 106) rfl) rfl ?_
      refine u_ld (v := .ref 271) (pc := 205) (dec_at lsk_232 (k := 107) rfl) rfl ?_
      refine u_gS (o := 27) (p := 298) (pc := 206) (dec_at lsk_232 (k := 108) rfl) f_12_90 sx_271 rfl rfl ?_
      refine u_c (x := 10) (pc := 209) (dec_at lsk_232 (k := 109) rfl) rfl (by decide) ?_
      refine u_ld (v := iV l7) (pc := 211) (dec_at lsk_232 (k := 110) rfl) rfl ?_
      refine u_imul (pc := 213) (dec_at lsk_232 (k := 111) rfl) ?_
      refine u_ld (v := iV l10) (pc := 214) (dec_at lsk_232 (k := 112) rfl) rfl ?_
      refine u_iadd (pc := 216) (dec_at lsk_232 (k := 113) rfl) ?_
      refine u_lald (pc := 217) (dec_at lsk_232 (k := 114) rfl) sx_298 g4 g5 ?_
      refine u_ld (v := .ref 271) (pc := 218) (dec_at lsk_232 (k := 115) rfl) rfl ?_
      refine u_gS (o := 25) (p := 296) (pc := 219) (dec_at lsk_232 (k := 116) rfl) f_12_84 sx_271 rfl rfl ?_
      refine u_ld (v := iV l10) (pc := 222) (dec_at lsk_232 (k := 117) rfl) rfl ?_
      refine u_ld (v := iV l4) (pc := 224) (dec_at lsk_232 (k := 118) rfl) rfl ?_
      refine u_ld (v := iV l5) (pc := 226) (dec_at lsk_232 (k := 119) rfl) rfl ?_
      refine u_csI (As := [iV l10, iV l4, iV l5]) (st2 := [.ref 296, lV (u.1 298 ((10 * l7) + l10)), lV l8]) (pc := 228) (dec_at lsk_232 (k := 120) rfl) m_12_352 (Or.inl rfl) rfl (Nat.le_of_ble_eq_true rfl) ?_ (fun _ _ h_ => h_)
      refine u_of me_231 (Nat.le_of_ble_eq_true rfl) ?_
      refine u_ld (v := iV l10) (pc := 0) (dec_at lsk_231 (k := 0) rfl) rfl ?_
      refine u_c (x := 41) (pc := 1) (dec_at lsk_231 (k := 1) rfl) rfl (by decide) ?_
      refine u_imul (pc := 3) (dec_at lsk_231 (k := 2) rfl) ?_
      refine u_ld (v := iV l4) (pc := 4) (dec_at lsk_231 (k := 3) rfl) rfl ?_
      refine u_iadd (pc := 5) (dec_at lsk_231 (k := 4) rfl) ?_
      refine u_c (x := 41) (pc := 6) (dec_at lsk_231 (k := 5) rfl) rfl (by decide) ?_
      refine u_imul (pc := 8) (dec_at lsk_231 (k := 6) rfl) ?_
      refine u_ld (v := iV l5) (pc := 9) (dec_at lsk_231 (k := 7) rfl) rfl ?_
      refine u_iadd (pc := 10) (dec_at lsk_231 (k := 8) rfl) ?_
      refine u_rI (pc := 11) (dec_at lsk_231 (k := 9) rfl) rfl ?_
      have g8 := h.1
      have h := h.2
      have g9 := h.1
      have h := h.2
      refine u_lald (pc := 231) (dec_at lsk_232 (k := 121) rfl) sx_296 g8 g9 ?_
      have g10 := h.1
      have h := h.2
      have g11 := h.1
      have h := h.2
      refine u_csL (As := [lV (u.1 298 ((10 * l7) + l10)), lV (u.1 296 ((((l10 * 41) + l4) * 41) + l5))]) (st2 := [lV l8]) (pc := 232) (dec_at lsk_232 (k := 122) rfl) m_12_345 (Or.inl rfl) rfl (Nat.le_of_ble_eq_true rfl) (p_227 g10 g11) (fun r_ u_ h_ => ?_)
      rw [h_.1, h_.2]
      have g12 := h.1
      have h := h.2
      refine u_csL (As := [lV l8, lV (tm 5000000000000000000 (u.1 298 ((10 * l7) + l10)) (u.1 296 ((((l10 * 41) + l4) * 41) + l5)))]) (st2 := []) (pc := 235) (dec_at lsk_232 (k := 123) rfl) m_12_323 (Or.inl rfl) rfl (Nat.le_of_ble_eq_true rfl) (p_217 g12 (cn_tm g10 g11)) (fun r_ u_ h_ => ?_)
      rw [h_.1, h_.2]
      refine u_sto (lv' := [.ref 271, .retAddr 0, .retAddr 0, .retAddr 0, iV l4, iV l5, iV l6, iV l7, lV (pl 5000000000000000000 l8 (tm 5000000000000000000 (u.1 298 ((10 * l7) + l10)) (u.1 296 ((((l10 * 41) + l4) * 41) + l5)))), .retAddr 0, iV l10]) (pc := 238) (dec_at lsk_232 (k := 124) rfl) rfl ?_
      refine u_inc (lv' := [.ref 271, .retAddr 0, .retAddr 0, .retAddr 0, iV l4, iV l5, iV l6, iV l7, lV (pl 5000000000000000000 l8 (tm 5000000000000000000 (u.1 298 ((10 * l7) + l10)) (u.1 296 ((((l10 * 41) + l4) * 41) + l5)))), .retAddr 0, iV (l10 + 1)]) (pc := 240) (dec_at lsk_232 (k := 125) rfl) rfl (by decide) rfl ?_
      refine u_goto (pc := 243) (tgt := 178) (dec_at lsk_232 (k := 126) rfl) rfl ?_
      exact h
  · have h := ifF e3 h
    refine u_ld (v := .ref 271) (pc := 246) (dec_at lsk_232 (k := 127) rfl) rfl ?_
    refine u_gS (o := 25) (p := 296) (pc := 247) (dec_at lsk_232 (k := 128) rfl) f_12_84 sx_271 rfl rfl ?_
    refine u_ld (v := iV l7) (pc := 250) (dec_at lsk_232 (k := 129) rfl) rfl ?_
    refine u_ld (v := iV l4) (pc := 252) (dec_at lsk_232 (k := 130) rfl) rfl ?_
    refine u_ld (v := iV l5) (pc := 254) (dec_at lsk_232 (k := 131) rfl) rfl ?_
    refine u_csI (As := [iV l7, iV l4, iV l5]) (st2 := [.ref 296]) (pc := 256) (dec_at lsk_232 (k := 132) rfl) m_12_352 (Or.inl rfl) rfl (Nat.le_of_ble_eq_true rfl) ?_ (fun _ _ h_ => h_)
    refine u_of me_231 (Nat.le_of_ble_eq_true rfl) ?_
    refine u_ld (v := iV l7) (pc := 0) (dec_at lsk_231 (k := 0) rfl) rfl ?_
    refine u_c (x := 41) (pc := 1) (dec_at lsk_231 (k := 1) rfl) rfl (by decide) ?_
    refine u_imul (pc := 3) (dec_at lsk_231 (k := 2) rfl) ?_
    refine u_ld (v := iV l4) (pc := 4) (dec_at lsk_231 (k := 3) rfl) rfl ?_
    refine u_iadd (pc := 5) (dec_at lsk_231 (k := 4) rfl) ?_
    refine u_c (x := 41) (pc := 6) (dec_at lsk_231 (k := 5) rfl) rfl (by decide) ?_
    refine u_imul (pc := 8) (dec_at lsk_231 (k := 6) rfl) ?_
    refine u_ld (v := iV l5) (pc := 9) (dec_at lsk_231 (k := 7) rfl) rfl ?_
    refine u_iadd (pc := 10) (dec_at lsk_231 (k := 8) rfl) ?_
    refine u_rI (pc := 11) (dec_at lsk_231 (k := 9) rfl) rfl ?_
    refine u_ld (v := lV l8) (pc := 259) (dec_at lsk_232 (k := 133) rfl) rfl ?_
    have g13 := h.1
    have h := h.2
    have g14 := h.1
    have h := h.2
    refine u_last (pc := 261) (dec_at lsk_232 (k := 134) rfl) sx_296 g13 g14 (fun u15 e16 => ?_)
    have h := h u15 e16
    refine u_inc (lv' := [.ref 271, .retAddr 0, .retAddr 0, .retAddr 0, iV l4, iV l5, iV (l6 + 1), iV l7, lV l8, .retAddr 0, iV l10]) (pc := 262) (dec_at lsk_232 (k := 135) rfl) rfl (by decide) rfl ?_
    refine u_goto (pc := 265) (tgt := 148) (dec_at lsk_232 (k := 136) rfl) rfl ?_
    exact u_weak (sbK (sbK (sbK (sbK (sbK (sbK (sbK (sbD (sbD (sbK (sbD sb0))))))))))) h
/-- method 234 -/
def K_234 (d pc : Nat) (lv : ev_L) (st : List Value) (u : uS) (Q : Int → uS → Prop) : Prop := okU d 12 3 false (some .long) prog_14_method_35_code (qL Q) pc lv st u
theorem e_234 {d : Nat} {Q : Int → uS → Prop} {u : uS} {l1 : Int} (h : (rI (u.1 271 11)) ∧ (if u.1 271 11 = 0 then (Q (-1) u) else ((rI l1) ∧ (if l1 < 0 then (Q (-1) u) else (if 40 < l1 then (Q (-1) u) else (cV (d + 1) 224 [.ref 271] u (fun u6 => K_234 (d + 1) 29 [.ref 271, iV l1, iV 1] [] u6 Q))))))) : cL (d + 2) 234 [.ref 271, iV l1] u Q := by
  refine u_of me_234 (Nat.le_of_ble_eq_true rfl) ?_
  refine u_ld (v := .ref 271) (pc := 0) (dec_at lsk_234 (k := 0) rfl) rfl ?_
  refine u_gZ (z := 11) (pc := 1) (dec_at lsk_234 (k := 1) rfl) f_12_299 sx_271 rfl rfl ?_
  have g1 := h.1
  have h := h.2
  refine u_ifT (pc := 4) (tgt := 19) (dec_at lsk_234 (k := 2) rfl) rfl (c0_eq g1) (fun e2 => ?_) (fun e2 => ?_)
  · have h := ifT e2 h
    refine u_ldc2 (x := (-1)) (pc := 19) (dec_at lsk_234 (k := 9) rfl) con_12_331 (by decide) ?_
    exact u_rL (pc := 22) (dec_at lsk_234 (k := 10) rfl) rfl h
  · have h := ifF e2 h
    refine u_ld (v := iV l1) (pc := 7) (dec_at lsk_234 (k := 3) rfl) rfl ?_
    have g3 := h.1
    have h := h.2
    refine u_i2l (pc := 8) (dec_at lsk_234 (k := 4) rfl) g3 ?_
    refine u_cl (x := 0) (pc := 9) (dec_at lsk_234 (k := 5) rfl) rfl (by decide) ?_
    refine u_ldc2 (x := 40) (pc := 10) (dec_at lsk_234 (k := 6) rfl) con_12_373 (by decide) ?_
    refine u_csI (As := [lV l1, lV 0, lV 40]) (st2 := []) (pc := 13) (dec_at lsk_234 (k := 7) rfl) m_12_250 (Or.inl rfl) rfl (Nat.le_of_ble_eq_true rfl) ?_ (fun _ _ h_ => h_)
    refine u_of me_203 (Nat.le_of_ble_eq_true rfl) ?_
    refine u_ld (v := lV l1) (pc := 0) (dec_at lsk_203 (k := 0) rfl) rfl ?_
    refine u_ld (v := lV 0) (pc := 1) (dec_at lsk_203 (k := 1) rfl) rfl ?_
    refine u_st (st' := [.int (lg_cmp (Int64.ofInt l1) (Int64.ofInt 0))]) (pc := 2) (dec_at lsk_203 (k := 2) rfl) rfl ?_
    refine u_ifT (pc := 3) (tgt := 17) (dec_at lsk_203 (k := 3) rfl) rfl (cl_lt (rl_ri g3) (by decide)) (fun e4 => ?_) (fun e4 => ?_)
    · have h := ifT e4 h
      refine u_ld (v := iV 0) (pc := 17) (dec_at lsk_203 (k := 10) rfl) rfl ?_
      refine u_rZ (pc := 18) (dec_at lsk_203 (k := 11) rfl) rfl (by decide) ?_
      refine u_ifF (pc := 16) (tgt := 23) (dec_at lsk_234 (k := 8) rfl) rfl (c0_ne (by decide)) (fun _ => ?_) (fun e => absurd e (by decide))
      refine u_ldc2 (x := (-1)) (pc := 19) (dec_at lsk_234 (k := 9) rfl) con_12_331 (by decide) ?_
      exact u_rL (pc := 22) (dec_at lsk_234 (k := 10) rfl) rfl h
    · have h := ifF e4 h
      refine u_ld (v := lV l1) (pc := 6) (dec_at lsk_203 (k := 4) rfl) rfl ?_
      refine u_ld (v := lV 40) (pc := 7) (dec_at lsk_203 (k := 5) rfl) rfl ?_
      refine u_st (st' := [.int (lg_cmp (Int64.ofInt l1) (Int64.ofInt 40))]) (pc := 9) (dec_at lsk_203 (k := 6) rfl) rfl ?_
      refine u_ifT (pc := 10) (tgt := 17) (dec_at lsk_203 (k := 7) rfl) rfl (cl_gt (rl_ri g3) (by decide)) (fun e5 => ?_) (fun e5 => ?_)
      · have h := ifT e5 h
        refine u_ld (v := iV 0) (pc := 17) (dec_at lsk_203 (k := 10) rfl) rfl ?_
        refine u_rZ (pc := 18) (dec_at lsk_203 (k := 11) rfl) rfl (by decide) ?_
        refine u_ifF (pc := 16) (tgt := 23) (dec_at lsk_234 (k := 8) rfl) rfl (c0_ne (by decide)) (fun _ => ?_) (fun e => absurd e (by decide))
        refine u_ldc2 (x := (-1)) (pc := 19) (dec_at lsk_234 (k := 9) rfl) con_12_331 (by decide) ?_
        exact u_rL (pc := 22) (dec_at lsk_234 (k := 10) rfl) rfl h
      · have h := ifF e5 h
        refine u_ld (v := iV 1) (pc := 13) (dec_at lsk_203 (k := 8) rfl) rfl ?_
        refine u_goto (pc := 14) (tgt := 18) (dec_at lsk_203 (k := 9) rfl) rfl ?_
        refine u_rZ (pc := 18) (dec_at lsk_203 (k := 11) rfl) rfl (by decide) ?_
        refine u_ifF (pc := 16) (tgt := 23) (dec_at lsk_234 (k := 8) rfl) rfl (c0_ne (by decide)) (fun e => absurd e (by decide)) (fun _ => ?_)
        refine u_ld (v := .ref 271) (pc := 23) (dec_at lsk_234 (k := 11) rfl) rfl ?_
        refine u_cvV (As := []) (rb := 271) (st2 := []) (pc := 24) (dec_at lsk_234 (k := 12) rfl) m_12_363 (Or.inl rfl) rfl (Nat.le_of_ble_eq_true rfl) sx_271 me_224 rfl h (fun u6 h => ?_)
        refine u_ld (v := iV 1) (pc := 27) (dec_at lsk_234 (k := 13) rfl) rfl ?_
        refine u_sto (lv' := [.ref 271, iV l1, iV 1]) (pc := 28) (dec_at lsk_234 (k := 14) rfl) rfl ?_
        exact h
theorem k_234_29 {d : Nat} {Q : Int → uS → Prop} {u : uS} {l1 l2 : Int} (h : (rI l2) ∧ ((rI l1) ∧ (if l1 < l2 then (if l1 = 0 then ((rL (u.1 292 0)) ∧ (if u.1 292 0 = 5000000000000000000 then (Q (-2) u) else (Q (u.1 292 0) u))) else ((0 ≤ (((0 * 41) + 0) * 41) + l1) ∧ (((((0 * 41) + 0) * 41) + l1 < 16810) ∧ ((rL (u.1 296 ((((0 * 41) + 0) * 41) + l1))) ∧ (if u.1 296 ((((0 * 41) + 0) * 41) + l1) = 5000000000000000000 then (Q (-2) u) else (Q (u.1 296 ((((0 * 41) + 0) * 41) + l1)) u)))))) else (cV (d + 1) 228 [.ref 271, iV 0, iV l2, iV 1] u (fun u11 => K_234 (d + 1) 29 [.ref 271, iV l1, iV (l2 + 1)] [] u11 Q))))) : K_234 (d + 1) 29 [.ref 271, iV l1, iV l2] [] u Q := by
  unfold K_234
  refine u_ld (v := iV l2) (pc := 29) (dec_at lsk_234 (k := 15) rfl) rfl ?_
  refine u_ld (v := iV l1) (pc := 30) (dec_at lsk_234 (k := 16) rfl) rfl ?_
  have g1 := h.1
  have h := h.2
  have g2 := h.1
  have h := h.2
  refine u_icT (pc := 31) (tgt := 47) (dec_at lsk_234 (k := 17) rfl) rfl (ci_gt g1 g2) (fun e3 => ?_) (fun e3 => ?_)
  · have h := ifT e3 h
    refine u_ld (v := iV l1) (pc := 47) (dec_at lsk_234 (k := 25) rfl) rfl ?_
    refine u_ifF (pc := 48) (tgt := 60) (dec_at lsk_234 (k := 26) rfl) rfl (c0_ne g2) (fun e4 => ?_) (fun e4 => ?_)
    · have h := ifT e4 h
      refine u_ld (v := .ref 271) (pc := 51) (dec_at lsk_234 (k := 27) rfl) rfl ?_
      refine u_gS (o := 21) (p := 292) (pc := 52) (dec_at lsk_234 (k := 28) rfl) f_12_72 sx_271 rfl rfl ?_
      refine u_ld (v := iV 0) (pc := 55) (dec_at lsk_234 (k := 29) rfl) rfl ?_
      refine u_lald (pc := 56) (dec_at lsk_234 (k := 30) rfl) sx_292 (by decide) (by decide) ?_
      refine u_goto (pc := 57) (tgt := 71) (dec_at lsk_234 (k := 31) rfl) rfl ?_
      refine u_csL (As := [lV (u.1 292 0)]) (st2 := []) (pc := 71) (dec_at lsk_234 (k := 39) rfl) m_12_369 (Or.inl rfl) rfl (Nat.le_of_ble_eq_true rfl) ?_ (fun _ _ h_ => h_)
      refine u_of me_233 (Nat.le_of_ble_eq_true rfl) ?_
      refine u_ld (v := lV (u.1 292 0)) (pc := 0) (dec_at lsk_233 (k := 0) rfl) rfl ?_
      refine u_ldc2 (x := 5000000000000000000) (pc := 1) (dec_at lsk_233 (k := 1) rfl) con_12_242 (by decide) ?_
      refine u_st (st' := [.int (lg_cmp (Int64.ofInt (u.1 292 0)) (Int64.ofInt 5000000000000000000))]) (pc := 4) (dec_at lsk_233 (k := 2) rfl) rfl ?_
      have g5 := h.1
      have h := h.2
      refine u_ifF (pc := 5) (tgt := 14) (dec_at lsk_233 (k := 3) rfl) rfl (cl_ne g5 (by decide)) (fun e6 => ?_) (fun e6 => ?_)
      · have h := ifT e6 h
        refine u_ldc2 (x := (-2)) (pc := 8) (dec_at lsk_233 (k := 4) rfl) con_12_333 (by decide) ?_
        refine u_goto (pc := 11) (tgt := 15) (dec_at lsk_233 (k := 5) rfl) rfl ?_
        refine u_rL (pc := 15) (dec_at lsk_233 (k := 7) rfl) rfl ?_
        exact u_rL (pc := 74) (dec_at lsk_234 (k := 40) rfl) rfl h
      · have h := ifF e6 h
        refine u_ld (v := lV (u.1 292 0)) (pc := 14) (dec_at lsk_233 (k := 6) rfl) rfl ?_
        refine u_rL (pc := 15) (dec_at lsk_233 (k := 7) rfl) rfl ?_
        exact u_rL (pc := 74) (dec_at lsk_234 (k := 40) rfl) rfl h
    · have h := ifF e4 h
      refine u_ld (v := .ref 271) (pc := 60) (dec_at lsk_234 (k := 32) rfl) rfl ?_
      refine u_gS (o := 25) (p := 296) (pc := 61) (dec_at lsk_234 (k := 33) rfl) f_12_84 sx_271 rfl rfl ?_
      refine u_ld (v := iV 0) (pc := 64) (dec_at lsk_234 (k := 34) rfl) rfl ?_
      refine u_ld (v := iV 0) (pc := 65) (dec_at lsk_234 (k := 35) rfl) rfl ?_
      refine u_ld (v := iV l1) (pc := 66) (dec_at lsk_234 (k := 36) rfl) rfl ?_
      refine u_csI (As := [iV 0, iV 0, iV l1]) (st2 := [.ref 296]) (pc := 67) (dec_at lsk_234 (k := 37) rfl) m_12_352 (Or.inl rfl) rfl (Nat.le_of_ble_eq_true rfl) ?_ (fun _ _ h_ => h_)
      refine u_of me_231 (Nat.le_of_ble_eq_true rfl) ?_
      refine u_ld (v := iV 0) (pc := 0) (dec_at lsk_231 (k := 0) rfl) rfl ?_
      refine u_c (x := 41) (pc := 1) (dec_at lsk_231 (k := 1) rfl) rfl (by decide) ?_
      refine u_imul (pc := 3) (dec_at lsk_231 (k := 2) rfl) ?_
      refine u_ld (v := iV 0) (pc := 4) (dec_at lsk_231 (k := 3) rfl) rfl ?_
      refine u_iadd (pc := 5) (dec_at lsk_231 (k := 4) rfl) ?_
      refine u_c (x := 41) (pc := 6) (dec_at lsk_231 (k := 5) rfl) rfl (by decide) ?_
      refine u_imul (pc := 8) (dec_at lsk_231 (k := 6) rfl) ?_
      refine u_ld (v := iV l1) (pc := 9) (dec_at lsk_231 (k := 7) rfl) rfl ?_
      refine u_iadd (pc := 10) (dec_at lsk_231 (k := 8) rfl) ?_
      refine u_rI (pc := 11) (dec_at lsk_231 (k := 9) rfl) rfl ?_
      have g7 := h.1
      have h := h.2
      have g8 := h.1
      have h := h.2
      refine u_lald (pc := 70) (dec_at lsk_234 (k := 38) rfl) sx_296 g7 g8 ?_
      refine u_csL (As := [lV (u.1 296 ((((0 * 41) + 0) * 41) + l1))]) (st2 := []) (pc := 71) (dec_at lsk_234 (k := 39) rfl) m_12_369 (Or.inl rfl) rfl (Nat.le_of_ble_eq_true rfl) ?_ (fun _ _ h_ => h_)
      refine u_of me_233 (Nat.le_of_ble_eq_true rfl) ?_
      refine u_ld (v := lV (u.1 296 ((((0 * 41) + 0) * 41) + l1))) (pc := 0) (dec_at lsk_233 (k := 0) rfl) rfl ?_
      refine u_ldc2 (x := 5000000000000000000) (pc := 1) (dec_at lsk_233 (k := 1) rfl) con_12_242 (by decide) ?_
      refine u_st (st' := [.int (lg_cmp (Int64.ofInt (u.1 296 ((((0 * 41) + 0) * 41) + l1))) (Int64.ofInt 5000000000000000000))]) (pc := 4) (dec_at lsk_233 (k := 2) rfl) rfl ?_
      have g9 := h.1
      have h := h.2
      refine u_ifF (pc := 5) (tgt := 14) (dec_at lsk_233 (k := 3) rfl) rfl (cl_ne g9 (by decide)) (fun e10 => ?_) (fun e10 => ?_)
      · have h := ifT e10 h
        refine u_ldc2 (x := (-2)) (pc := 8) (dec_at lsk_233 (k := 4) rfl) con_12_333 (by decide) ?_
        refine u_goto (pc := 11) (tgt := 15) (dec_at lsk_233 (k := 5) rfl) rfl ?_
        refine u_rL (pc := 15) (dec_at lsk_233 (k := 7) rfl) rfl ?_
        exact u_rL (pc := 74) (dec_at lsk_234 (k := 40) rfl) rfl h
      · have h := ifF e10 h
        refine u_ld (v := lV (u.1 296 ((((0 * 41) + 0) * 41) + l1))) (pc := 14) (dec_at lsk_233 (k := 6) rfl) rfl ?_
        refine u_rL (pc := 15) (dec_at lsk_233 (k := 7) rfl) rfl ?_
        exact u_rL (pc := 74) (dec_at lsk_234 (k := 40) rfl) rfl h
  · have h := ifF e3 h
    refine u_ld (v := .ref 271) (pc := 34) (dec_at lsk_234 (k := 18) rfl) rfl ?_
    refine u_ld (v := iV 0) (pc := 35) (dec_at lsk_234 (k := 19) rfl) rfl ?_
    refine u_ld (v := iV l2) (pc := 36) (dec_at lsk_234 (k := 20) rfl) rfl ?_
    refine u_ld (v := iV 1) (pc := 37) (dec_at lsk_234 (k := 21) rfl) rfl ?_
    refine u_cvV (As := [iV 0, iV l2, iV 1]) (rb := 271) (st2 := []) (pc := 38) (dec_at lsk_234 (k := 22) rfl) m_12_366 (Or.inl rfl) rfl (Nat.le_of_ble_eq_true rfl) sx_271 me_228 rfl h (fun u11 h => ?_)
    refine u_inc (lv' := [.ref 271, iV l1, iV (l2 + 1)]) (pc := 41) (dec_at lsk_234 (k := 23) rfl) rfl (by decide) rfl ?_
    refine u_goto (pc := 44) (tgt := 29) (dec_at lsk_234 (k := 24) rfl) rfl ?_
    exact h
/-- method 235 -/
def K_235 (d pc : Nat) (lv : ev_L) (st : List Value) (u : uS) (Q : Int → uS → Prop) : Prop := okU d 12 5 false (some .int) prog_14_method_60_code (qI Q) pc lv st u
theorem e_235 {d : Nat} {Q : Int → uS → Prop} {u : uS} {l1 : Int} (h : (rI l1) ∧ (if l1 < 0 then (Q (-1) u) else (if 1 < l1 then (Q (-1) u) else (cI (d + 1) 236 [.ref 271] u (fun r5 u4 => ∀ u6 : uS, u6 = wr u4 271 1 0 → ((rI r5) ∧ (if r5 = (-2) then (∀ u10 : uS, u10 = wr u6 271 43 0 → (∀ u12 : uS, u12 = wr u10 271 42 2 → (∀ u14 : uS, u14 = wr u12 271 61 0 → (cV (d + 1) 239 [.ref 271] u14 (fun u16 => K_235 (d + 1) 60 [.ref 271, iV l1, .retAddr 0, iV (u4.1 271 1), iV 0] [] u16 Q))))) else (Q ((-2) - r5) u6)))))))) : cI (d + 2) 235 [.ref 271, iV l1] u Q := by
  refine u_of me_235 (Nat.le_of_ble_eq_true rfl) ?_
  refine u_ld (v := iV l1) (pc := 0) (dec_at lsk_235 (k := 0) rfl) rfl ?_
  have g1 := h.1
  have h := h.2
  refine u_i2l (pc := 1) (dec_at lsk_235 (k := 1) rfl) g1 ?_
  refine u_cl (x := 0) (pc := 2) (dec_at lsk_235 (k := 2) rfl) rfl (by decide) ?_
  refine u_cl (x := 1) (pc := 3) (dec_at lsk_235 (k := 3) rfl) rfl (by decide) ?_
  refine u_csI (As := [lV l1, lV 0, lV 1]) (st2 := []) (pc := 4) (dec_at lsk_235 (k := 4) rfl) m_12_250 (Or.inl rfl) rfl (Nat.le_of_ble_eq_true rfl) ?_ (fun _ _ h_ => h_)
  refine u_of me_203 (Nat.le_of_ble_eq_true rfl) ?_
  refine u_ld (v := lV l1) (pc := 0) (dec_at lsk_203 (k := 0) rfl) rfl ?_
  refine u_ld (v := lV 0) (pc := 1) (dec_at lsk_203 (k := 1) rfl) rfl ?_
  refine u_st (st' := [.int (lg_cmp (Int64.ofInt l1) (Int64.ofInt 0))]) (pc := 2) (dec_at lsk_203 (k := 2) rfl) rfl ?_
  refine u_ifT (pc := 3) (tgt := 17) (dec_at lsk_203 (k := 3) rfl) rfl (cl_lt (rl_ri g1) (by decide)) (fun e2 => ?_) (fun e2 => ?_)
  · have h := ifT e2 h
    refine u_ld (v := iV 0) (pc := 17) (dec_at lsk_203 (k := 10) rfl) rfl ?_
    refine u_rZ (pc := 18) (dec_at lsk_203 (k := 11) rfl) rfl (by decide) ?_
    refine u_ifF (pc := 7) (tgt := 12) (dec_at lsk_235 (k := 5) rfl) rfl (c0_ne (by decide)) (fun _ => ?_) (fun e => absurd e (by decide))
    refine u_ld (v := iV (-1)) (pc := 10) (dec_at lsk_235 (k := 6) rfl) rfl ?_
    exact u_rI (pc := 11) (dec_at lsk_235 (k := 7) rfl) rfl h
  · have h := ifF e2 h
    refine u_ld (v := lV l1) (pc := 6) (dec_at lsk_203 (k := 4) rfl) rfl ?_
    refine u_ld (v := lV 1) (pc := 7) (dec_at lsk_203 (k := 5) rfl) rfl ?_
    refine u_st (st' := [.int (lg_cmp (Int64.ofInt l1) (Int64.ofInt 1))]) (pc := 9) (dec_at lsk_203 (k := 6) rfl) rfl ?_
    refine u_ifT (pc := 10) (tgt := 17) (dec_at lsk_203 (k := 7) rfl) rfl (cl_gt (rl_ri g1) (by decide)) (fun e3 => ?_) (fun e3 => ?_)
    · have h := ifT e3 h
      refine u_ld (v := iV 0) (pc := 17) (dec_at lsk_203 (k := 10) rfl) rfl ?_
      refine u_rZ (pc := 18) (dec_at lsk_203 (k := 11) rfl) rfl (by decide) ?_
      refine u_ifF (pc := 7) (tgt := 12) (dec_at lsk_235 (k := 5) rfl) rfl (c0_ne (by decide)) (fun _ => ?_) (fun e => absurd e (by decide))
      refine u_ld (v := iV (-1)) (pc := 10) (dec_at lsk_235 (k := 6) rfl) rfl ?_
      exact u_rI (pc := 11) (dec_at lsk_235 (k := 7) rfl) rfl h
    · have h := ifF e3 h
      refine u_ld (v := iV 1) (pc := 13) (dec_at lsk_203 (k := 8) rfl) rfl ?_
      refine u_goto (pc := 14) (tgt := 18) (dec_at lsk_203 (k := 9) rfl) rfl ?_
      refine u_rZ (pc := 18) (dec_at lsk_203 (k := 11) rfl) rfl (by decide) ?_
      refine u_ifF (pc := 7) (tgt := 12) (dec_at lsk_235 (k := 5) rfl) rfl (c0_ne (by decide)) (fun e => absurd e (by decide)) (fun _ => ?_)
      refine u_ld (v := .ref 271) (pc := 12) (dec_at lsk_235 (k := 8) rfl) rfl ?_
      refine u_cvI (As := []) (rb := 271) (st2 := []) (pc := 13) (dec_at lsk_235 (k := 9) rfl) m_12_461 (Or.inl rfl) rfl (Nat.le_of_ble_eq_true rfl) sx_271 me_236 rfl h (fun r5 u4 h => ?_)
      refine u_sto (lv' := [.ref 271, iV l1, iV r5, .retAddr 0, .retAddr 0]) (pc := 16) (dec_at lsk_235 (k := 10) rfl) rfl ?_
      refine u_ld (v := .ref 271) (pc := 17) (dec_at lsk_235 (k := 11) rfl) rfl ?_
      refine u_gI (z := 1) (pc := 18) (dec_at lsk_235 (k := 12) rfl) f_12_254 sx_271 rfl rfl ?_
      refine u_sto (lv' := [.ref 271, iV l1, iV r5, iV (u4.1 271 1), .retAddr 0]) (pc := 21) (dec_at lsk_235 (k := 13) rfl) rfl ?_
      refine u_ld (v := .ref 271) (pc := 22) (dec_at lsk_235 (k := 14) rfl) rfl ?_
      refine u_ld (v := iV 0) (pc := 23) (dec_at lsk_235 (k := 15) rfl) rfl ?_
      refine u_pI (z := 1) (pc := 24) (dec_at lsk_235 (k := 16) rfl) f_12_254 sx_271 rfl rfl rfl rfl (fun u6 e7 => ?_)
      have h := h u6 e7
      refine u_ld (v := iV r5) (pc := 27) (dec_at lsk_235 (k := 17) rfl) rfl ?_
      refine u_c (x := (-2)) (pc := 28) (dec_at lsk_235 (k := 18) rfl) rfl (by decide) ?_
      have g8 := h.1
      have h := h.2
      refine u_icT (pc := 30) (tgt := 38) (dec_at lsk_235 (k := 19) rfl) rfl (ci_eq g8 (by decide)) (fun e9 => ?_) (fun e9 => ?_)
      · have h := ifT e9 h
        refine u_ld (v := .ref 271) (pc := 38) (dec_at lsk_235 (k := 24) rfl) rfl ?_
        refine u_ld (v := iV 0) (pc := 39) (dec_at lsk_235 (k := 25) rfl) rfl ?_
        refine u_pZ (z := 43) (pc := 40) (dec_at lsk_235 (k := 26) rfl) f_12_394 sx_271 rfl rfl rfl rfl (by decide) (fun u10 e11 => ?_)
        have h := h u10 e11
        refine u_ld (v := .ref 271) (pc := 43) (dec_at lsk_235 (k := 27) rfl) rfl ?_
        refine u_ld (v := iV 2) (pc := 44) (dec_at lsk_235 (k := 28) rfl) rfl ?_
        refine u_pI (z := 42) (pc := 45) (dec_at lsk_235 (k := 29) rfl) f_12_375 sx_271 rfl rfl rfl rfl (fun u12 e13 => ?_)
        have h := h u12 e13
        refine u_ld (v := .ref 271) (pc := 48) (dec_at lsk_235 (k := 30) rfl) rfl ?_
        refine u_ld (v := iV 0) (pc := 49) (dec_at lsk_235 (k := 31) rfl) rfl ?_
        refine u_pI (z := 61) (pc := 50) (dec_at lsk_235 (k := 32) rfl) f_12_425 sx_271 rfl rfl rfl rfl (fun u14 e15 => ?_)
        have h := h u14 e15
        refine u_ld (v := .ref 271) (pc := 53) (dec_at lsk_235 (k := 33) rfl) rfl ?_
        refine u_cvV (As := []) (rb := 271) (st2 := []) (pc := 54) (dec_at lsk_235 (k := 34) rfl) m_12_451 (Or.inl rfl) rfl (Nat.le_of_ble_eq_true rfl) sx_271 me_239 rfl h (fun u16 h => ?_)
        refine u_ld (v := iV 0) (pc := 57) (dec_at lsk_235 (k := 35) rfl) rfl ?_
        refine u_sto (lv' := [.ref 271, iV l1, iV r5, iV (u4.1 271 1), iV 0]) (pc := 58) (dec_at lsk_235 (k := 36) rfl) rfl ?_
        exact u_weak (sbK (sbK (sbD (sbK (sbK sb0))))) h
      · have h := ifF e9 h
        refine u_c (x := (-2)) (pc := 33) (dec_at lsk_235 (k := 20) rfl) rfl (by decide) ?_
        refine u_ld (v := iV r5) (pc := 35) (dec_at lsk_235 (k := 21) rfl) rfl ?_
        refine u_isub (pc := 36) (dec_at lsk_235 (k := 22) rfl) ?_
        exact u_rI (pc := 37) (dec_at lsk_235 (k := 23) rfl) rfl h
theorem k_235_60 {d : Nat} {Q : Int → uS → Prop} {u : uS} {l1 l3 l4 : Int} (h : (rI l4) ∧ ((rI l3) ∧ (if l4 < l3 then ((rI (u.1 271 43)) ∧ (if u.1 271 43 = 0 then ((0 ≤ l4) ∧ ((l4 < 300) ∧ ((rI (u.1 272 l4)) ∧ (if u.1 272 l4 = 32 then (K_235 (d + 1) 60 [.ref 271, iV l1, .retAddr 0, iV l3, iV (l4 + 1)] [] u Q) else (cV (d + 1) 240 [.ref 271, iV (u.1 272 l4)] u (fun u10 => cV (d + 1) 259 [.ref 271] u10 (fun u11 => K_235 (d + 1) 60 [.ref 271, iV l1, .retAddr 0, iV l3, iV (l4 + 1)] [] u11 Q))))))) else (K_235 (d + 1) 106 [.ref 271, iV l1, .retAddr 0, .retAddr 0, .retAddr 0] [] u Q))) else (K_235 (d + 1) 106 [.ref 271, iV l1, .retAddr 0, .retAddr 0, .retAddr 0] [] u Q)))) : K_235 (d + 1) 60 [.ref 271, iV l1, .retAddr 0, iV l3, iV l4] [] u Q := by
  unfold K_235
  refine u_ld (v := iV l4) (pc := 60) (dec_at lsk_235 (k := 37) rfl) rfl ?_
  refine u_ld (v := iV l3) (pc := 62) (dec_at lsk_235 (k := 38) rfl) rfl ?_
  have g1 := h.1
  have h := h.2
  have g2 := h.1
  have h := h.2
  refine u_icF (pc := 63) (tgt := 106) (dec_at lsk_235 (k := 39) rfl) rfl (ci_ge g1 g2) (fun e3 => ?_) (fun e3 => ?_)
  · have h := ifT e3 h
    refine u_ld (v := .ref 271) (pc := 66) (dec_at lsk_235 (k := 40) rfl) rfl ?_
    refine u_gZ (z := 43) (pc := 67) (dec_at lsk_235 (k := 41) rfl) f_12_394 sx_271 rfl rfl ?_
    have g4 := h.1
    have h := h.2
    refine u_ifF (pc := 70) (tgt := 106) (dec_at lsk_235 (k := 42) rfl) rfl (c0_ne g4) (fun e5 => ?_) (fun e5 => ?_)
    · have h := ifT e5 h
      refine u_ld (v := .ref 271) (pc := 73) (dec_at lsk_235 (k := 43) rfl) rfl ?_
      refine u_gS (o := 1) (p := 272) (pc := 74) (dec_at lsk_235 (k := 44) rfl) f_12_7 sx_271 rfl rfl ?_
      refine u_ld (v := iV l4) (pc := 77) (dec_at lsk_235 (k := 45) rfl) rfl ?_
      have g6 := h.1
      have h := h.2
      have g7 := h.1
      have h := h.2
      refine u_iald (pc := 79) (dec_at lsk_235 (k := 46) rfl) sx_272 g6 g7 ?_
      refine u_c (x := 32) (pc := 80) (dec_at lsk_235 (k := 47) rfl) rfl (by decide) ?_
      have g8 := h.1
      have h := h.2
      refine u_icT (pc := 82) (tgt := 100) (dec_at lsk_235 (k := 48) rfl) rfl (ci_eq g8 (by decide)) (fun e9 => ?_) (fun e9 => ?_)
      · have h := ifT e9 h
        refine u_inc (lv' := [.ref 271, iV l1, .retAddr 0, iV l3, iV (l4 + 1)]) (pc := 100) (dec_at lsk_235 (k := 57) rfl) rfl (by decide) rfl ?_
        refine u_goto (pc := 103) (tgt := 60) (dec_at lsk_235 (k := 58) rfl) rfl ?_
        exact h
      · have h := ifF e9 h
        refine u_ld (v := .ref 271) (pc := 85) (dec_at lsk_235 (k := 49) rfl) rfl ?_
        refine u_ld (v := .ref 271) (pc := 86) (dec_at lsk_235 (k := 50) rfl) rfl ?_
        refine u_gS (o := 1) (p := 272) (pc := 87) (dec_at lsk_235 (k := 51) rfl) f_12_7 sx_271 rfl rfl ?_
        refine u_ld (v := iV l4) (pc := 90) (dec_at lsk_235 (k := 52) rfl) rfl ?_
        refine u_iald (pc := 92) (dec_at lsk_235 (k := 53) rfl) sx_272 g6 g7 ?_
        refine u_cvV (As := [iV (u.1 272 l4)]) (rb := 271) (st2 := []) (pc := 93) (dec_at lsk_235 (k := 54) rfl) m_12_464 (Or.inl rfl) rfl (Nat.le_of_ble_eq_true rfl) sx_271 me_240 rfl h (fun u10 h => ?_)
        refine u_ld (v := .ref 271) (pc := 96) (dec_at lsk_235 (k := 55) rfl) rfl ?_
        refine u_cvV (As := []) (rb := 271) (st2 := []) (pc := 97) (dec_at lsk_235 (k := 56) rfl) m_12_467 (Or.inl rfl) rfl (Nat.le_of_ble_eq_true rfl) sx_271 me_259 rfl h (fun u11 h => ?_)
        refine u_inc (lv' := [.ref 271, iV l1, .retAddr 0, iV l3, iV (l4 + 1)]) (pc := 100) (dec_at lsk_235 (k := 57) rfl) rfl (by decide) rfl ?_
        refine u_goto (pc := 103) (tgt := 60) (dec_at lsk_235 (k := 58) rfl) rfl ?_
        exact h
    · have h := ifF e5 h
      exact u_weak (sbK (sbK (sbK (sbD (sbD sb0))))) h
  · have h := ifF e3 h
    exact u_weak (sbK (sbK (sbK (sbD (sbD sb0))))) h
theorem k_235_106 {d : Nat} {Q : Int → uS → Prop} {u : uS} {l1 : Int} (h : (rI (u.1 271 43)) ∧ (if u.1 271 43 = 0 then (cV (d + 1) 255 [.ref 271] u (fun u3 => (rI (u3.1 271 43)) ∧ (if u3.1 271 43 = 0 then (cV (d + 1) 261 [.ref 271, iV (u3.1 314 0), iV l1] u3 (fun u6 => (0 ≤ l1) ∧ ((l1 < 100) ∧ (Q (u6.1 301 l1) u6)))) else (Q (-1000) u3)))) else (Q (-1000) u))) : K_235 (d + 1) 106 [.ref 271, iV l1, .retAddr 0, .retAddr 0, .retAddr 0] [] u Q := by
  unfold K_235
  refine u_ld (v := .ref 271) (pc := 106) (dec_at lsk_235 (k := 59) rfl) rfl ?_
  refine u_gZ (z := 43) (pc := 107) (dec_at lsk_235 (k := 60) rfl) f_12_394 sx_271 rfl rfl ?_
  have g1 := h.1
  have h := h.2
  refine u_ifF (pc := 110) (tgt := 117) (dec_at lsk_235 (k := 61) rfl) rfl (c0_ne g1) (fun e2 => ?_) (fun e2 => ?_)
  · have h := ifT e2 h
    refine u_ld (v := .ref 271) (pc := 113) (dec_at lsk_235 (k := 62) rfl) rfl ?_
    refine u_cvV (As := []) (rb := 271) (st2 := []) (pc := 114) (dec_at lsk_235 (k := 63) rfl) m_12_454 (Or.inl rfl) rfl (Nat.le_of_ble_eq_true rfl) sx_271 me_255 rfl h (fun u3 h => ?_)
    refine u_ld (v := .ref 271) (pc := 117) (dec_at lsk_235 (k := 64) rfl) rfl ?_
    refine u_gZ (z := 43) (pc := 118) (dec_at lsk_235 (k := 65) rfl) f_12_394 sx_271 rfl rfl ?_
    have g4 := h.1
    have h := h.2
    refine u_ifT (pc := 121) (tgt := 128) (dec_at lsk_235 (k := 66) rfl) rfl (c0_eq g4) (fun e5 => ?_) (fun e5 => ?_)
    · have h := ifT e5 h
      refine u_ld (v := .ref 271) (pc := 128) (dec_at lsk_235 (k := 69) rfl) rfl ?_
      refine u_ld (v := .ref 271) (pc := 129) (dec_at lsk_235 (k := 70) rfl) rfl ?_
      refine u_gS (o := 43) (p := 314) (pc := 130) (dec_at lsk_235 (k := 71) rfl) f_12_139 sx_271 rfl rfl ?_
      refine u_ld (v := iV 0) (pc := 133) (dec_at lsk_235 (k := 72) rfl) rfl ?_
      refine u_iald (pc := 134) (dec_at lsk_235 (k := 73) rfl) sx_314 (by decide) (by decide) ?_
      refine u_ld (v := iV l1) (pc := 135) (dec_at lsk_235 (k := 74) rfl) rfl ?_
      refine u_cvV (As := [iV (u3.1 314 0), iV l1]) (rb := 271) (st2 := []) (pc := 136) (dec_at lsk_235 (k := 75) rfl) m_12_470 (Or.inl rfl) rfl (Nat.le_of_ble_eq_true rfl) sx_271 me_261 rfl h (fun u6 h => ?_)
      refine u_ld (v := .ref 271) (pc := 139) (dec_at lsk_235 (k := 76) rfl) rfl ?_
      refine u_gS (o := 30) (p := 301) (pc := 140) (dec_at lsk_235 (k := 77) rfl) f_12_99 sx_271 rfl rfl ?_
      refine u_ld (v := iV l1) (pc := 143) (dec_at lsk_235 (k := 78) rfl) rfl ?_
      have g7 := h.1
      have h := h.2
      have g8 := h.1
      have h := h.2
      refine u_iald (pc := 144) (dec_at lsk_235 (k := 79) rfl) sx_301 g7 g8 ?_
      exact u_rI (pc := 145) (dec_at lsk_235 (k := 80) rfl) rfl h
    · have h := ifF e5 h
      refine u_c (x := (-1000)) (pc := 124) (dec_at lsk_235 (k := 67) rfl) rfl (by decide) ?_
      exact u_rI (pc := 127) (dec_at lsk_235 (k := 68) rfl) rfl h
  · have h := ifF e2 h
    refine u_ld (v := .ref 271) (pc := 117) (dec_at lsk_235 (k := 64) rfl) rfl ?_
    refine u_gZ (z := 43) (pc := 118) (dec_at lsk_235 (k := 65) rfl) f_12_394 sx_271 rfl rfl ?_
    refine u_ifT (pc := 121) (tgt := 128) (dec_at lsk_235 (k := 66) rfl) rfl (c0_eq g1) (fun e9 => absurd e9 e2) (fun _ => ?_)
    refine u_c (x := (-1000)) (pc := 124) (dec_at lsk_235 (k := 67) rfl) rfl (by decide) ?_
    exact u_rI (pc := 127) (dec_at lsk_235 (k := 68) rfl) rfl h
/-- method 236 -/
def K_236 (d pc : Nat) (lv : ev_L) (st : List Value) (u : uS) (Q : Int → uS → Prop) : Prop := okU d 12 7 false (some .int) prog_14_method_53_code (qI Q) pc lv st u
theorem e_236 {d : Nat} {Q : Int → uS → Prop} {u : uS} (h : K_236 (d + 2) 9 [.ref 271, iV 0, iV 0, iV 0, iV 0, .retAddr 0, .retAddr 0] [] u Q) : cI (d + 3) 236 [.ref 271] u Q := by
  refine u_of me_236 (Nat.le_of_ble_eq_true rfl) ?_
  refine u_ld (v := iV 0) (pc := 0) (dec_at lsk_236 (k := 0) rfl) rfl ?_
  refine u_sto (lv' := [.ref 271, iV 0, .retAddr 0, .retAddr 0, .retAddr 0, .retAddr 0, .retAddr 0]) (pc := 1) (dec_at lsk_236 (k := 1) rfl) rfl ?_
  refine u_ld (v := iV 0) (pc := 2) (dec_at lsk_236 (k := 2) rfl) rfl ?_
  refine u_sto (lv' := [.ref 271, iV 0, iV 0, .retAddr 0, .retAddr 0, .retAddr 0, .retAddr 0]) (pc := 3) (dec_at lsk_236 (k := 3) rfl) rfl ?_
  refine u_ld (v := iV 0) (pc := 4) (dec_at lsk_236 (k := 4) rfl) rfl ?_
  refine u_sto (lv' := [.ref 271, iV 0, iV 0, iV 0, .retAddr 0, .retAddr 0, .retAddr 0]) (pc := 5) (dec_at lsk_236 (k := 5) rfl) rfl ?_
  refine u_ld (v := iV 0) (pc := 6) (dec_at lsk_236 (k := 6) rfl) rfl ?_
  refine u_sto (lv' := [.ref 271, iV 0, iV 0, iV 0, iV 0, .retAddr 0, .retAddr 0]) (pc := 7) (dec_at lsk_236 (k := 7) rfl) rfl ?_
  exact h
theorem k_236_9 {d : Nat} {Q : Int → uS → Prop} {u : uS} {l1 l2 l3 l4 : Int} (h : (rI l4) ∧ ((rI (u.1 271 1)) ∧ (if l4 < u.1 271 1 then ((0 ≤ l4) ∧ ((l4 < 300) ∧ ((rI (u.1 272 l4)) ∧ (if u.1 272 l4 = 32 then (K_236 (d + 2) 9 [.ref 271, iV l1, iV l2, iV l3, iV (l4 + 1), .retAddr 0, .retAddr 0] [] u Q) else (if u.1 272 l4 < 97 then (if u.1 272 l4 = 46 then (K_236 (d + 2) 9 [.ref 271, iV l1, iV 0, iV 1, iV (l4 + 1), .retAddr 0, .retAddr 0] [] u Q) else (if u.1 272 l4 = 48 then (K_236 (d + 2) 9 [.ref 271, iV l1, iV 0, iV 1, iV (l4 + 1), .retAddr 0, .retAddr 0] [] u Q) else (if u.1 272 l4 = 33 then (K_236 (d + 2) 88 [.ref 271, iV l1, .retAddr 0, .retAddr 0, iV l4, iV (u.1 272 l4), .retAddr 0] [iV 1] u Q) else (if u.1 272 l4 = 40 then ((rI l1) ∧ (if l1 < 15 then (K_236 (d + 2) 88 [.ref 271, iV l1, .retAddr 0, .retAddr 0, iV l4, iV (u.1 272 l4), .retAddr 0] [iV 1] u Q) else (K_236 (d + 2) 88 [.ref 271, iV l1, .retAddr 0, .retAddr 0, iV l4, iV (u.1 272 l4), .retAddr 0] [iV 0] u Q))) else (if u.1 272 l4 = 42 then ((rI l3) ∧ (if l3 = 0 then (Q l4 u) else (K_236 (d + 2) 9 [.ref 271, iV l1, iV l2, iV l3, iV (l4 + 1), .retAddr 0, .retAddr 0] [] u Q))) else (if u.1 272 l4 = 43 then ((rI l3) ∧ (if l3 = 0 then (Q l4 u) else (K_236 (d + 2) 9 [.ref 271, iV l1, iV l2, iV l3, iV (l4 + 1), .retAddr 0, .retAddr 0] [] u Q))) else (if u.1 272 l4 = 63 then ((rI l3) ∧ (if l3 = 0 then (Q l4 u) else (K_236 (d + 2) 9 [.ref 271, iV l1, iV l2, iV l3, iV (l4 + 1), .retAddr 0, .retAddr 0] [] u Q))) else ((rI l2) ∧ (if l2 = 0 then (if u.1 272 l4 = 124 then (K_236 (d + 2) 171 [.ref 271, iV l1, iV l2, .retAddr 0, iV l4, iV (u.1 272 l4), .retAddr 0] [iV 1] u Q) else (if u.1 272 l4 = 38 then (K_236 (d + 2) 171 [.ref 271, iV l1, iV l2, .retAddr 0, iV l4, iV (u.1 272 l4), .retAddr 0] [iV 1] u Q) else (if u.1 272 l4 = 41 then ((rI l1) ∧ (if 0 < l1 then (K_236 (d + 2) 171 [.ref 271, iV l1, iV l2, .retAddr 0, iV l4, iV (u.1 272 l4), .retAddr 0] [iV 1] u Q) else (K_236 (d + 2) 171 [.ref 271, iV l1, iV l2, .retAddr 0, iV l4, iV (u.1 272 l4), .retAddr 0] [iV 0] u Q))) else (K_236 (d + 2) 171 [.ref 271, iV l1, iV l2, .retAddr 0, iV l4, iV (u.1 272 l4), .retAddr 0] [iV 0] u Q)))) else (K_236 (d + 2) 171 [.ref 271, iV l1, iV l2, .retAddr 0, iV l4, iV (u.1 272 l4), .retAddr 0] [iV 0] u Q)))))))))) else (if 106 < u.1 272 l4 then (if u.1 272 l4 = 46 then (K_236 (d + 2) 9 [.ref 271, iV l1, iV 0, iV 1, iV (l4 + 1), .retAddr 0, .retAddr 0] [] u Q) else (if u.1 272 l4 = 48 then (K_236 (d + 2) 9 [.ref 271, iV l1, iV 0, iV 1, iV (l4 + 1), .retAddr 0, .retAddr 0] [] u Q) else (if u.1 272 l4 = 33 then (K_236 (d + 2) 88 [.ref 271, iV l1, .retAddr 0, .retAddr 0, iV l4, iV (u.1 272 l4), .retAddr 0] [iV 1] u Q) else (if u.1 272 l4 = 40 then ((rI l1) ∧ (if l1 < 15 then (K_236 (d + 2) 88 [.ref 271, iV l1, .retAddr 0, .retAddr 0, iV l4, iV (u.1 272 l4), .retAddr 0] [iV 1] u Q) else (K_236 (d + 2) 88 [.ref 271, iV l1, .retAddr 0, .retAddr 0, iV l4, iV (u.1 272 l4), .retAddr 0] [iV 0] u Q))) else (if u.1 272 l4 = 42 then ((rI l3) ∧ (if l3 = 0 then (Q l4 u) else (K_236 (d + 2) 9 [.ref 271, iV l1, iV l2, iV l3, iV (l4 + 1), .retAddr 0, .retAddr 0] [] u Q))) else (if u.1 272 l4 = 43 then ((rI l3) ∧ (if l3 = 0 then (Q l4 u) else (K_236 (d + 2) 9 [.ref 271, iV l1, iV l2, iV l3, iV (l4 + 1), .retAddr 0, .retAddr 0] [] u Q))) else (if u.1 272 l4 = 63 then ((rI l3) ∧ (if l3 = 0 then (Q l4 u) else (K_236 (d + 2) 9 [.ref 271, iV l1, iV l2, iV l3, iV (l4 + 1), .retAddr 0, .retAddr 0] [] u Q))) else ((rI l2) ∧ (if l2 = 0 then (if u.1 272 l4 = 124 then (K_236 (d + 2) 171 [.ref 271, iV l1, iV l2, .retAddr 0, iV l4, iV (u.1 272 l4), .retAddr 0] [iV 1] u Q) else (if u.1 272 l4 = 38 then (K_236 (d + 2) 171 [.ref 271, iV l1, iV l2, .retAddr 0, iV l4, iV (u.1 272 l4), .retAddr 0] [iV 1] u Q) else (if u.1 272 l4 = 41 then ((rI l1) ∧ (if 0 < l1 then (K_236 (d + 2) 171 [.ref 271, iV l1, iV l2, .retAddr 0, iV l4, iV (u.1 272 l4), .retAddr 0] [iV 1] u Q) else (K_236 (d + 2) 171 [.ref 271, iV l1, iV l2, .retAddr 0, iV l4, iV (u.1 272 l4), .retAddr 0] [iV 0] u Q))) else (K_236 (d + 2) 171 [.ref 271, iV l1, iV l2, .retAddr 0, iV l4, iV (u.1 272 l4), .retAddr 0] [iV 0] u Q)))) else (K_236 (d + 2) 171 [.ref 271, iV l1, iV l2, .retAddr 0, iV l4, iV (u.1 272 l4), .retAddr 0] [iV 0] u Q)))))))))) else (K_236 (d + 2) 9 [.ref 271, iV l1, iV 0, iV 1, iV (l4 + 1), .retAddr 0, .retAddr 0] [] u Q))))))) else ((rI l1) ∧ (if 0 < l1 then (Q (u.1 271 1) u) else ((rI l2) ∧ (if l2 = 0 then (Q (-2) u) else (Q (u.1 271 1) u)))))))) : K_236 (d + 2) 9 [.ref 271, iV l1, iV l2, iV l3, iV l4, .retAddr 0, .retAddr 0] [] u Q := by
  unfold K_236
  refine u_ld (v := iV l4) (pc := 9) (dec_at lsk_236 (k := 8) rfl) rfl ?_
  refine u_ld (v := .ref 271) (pc := 11) (dec_at lsk_236 (k := 9) rfl) rfl ?_
  refine u_gI (z := 1) (pc := 12) (dec_at lsk_236 (k := 10) rfl) f_12_254 sx_271 rfl rfl ?_
  have g1 := h.1
  have h := h.2
  have g2 := h.1
  have h := h.2
  refine u_icF (pc := 15) (tgt := 215) (dec_at lsk_236 (k := 11) rfl) rfl (ci_ge g1 g2) (fun e3 => ?_) (fun e3 => ?_)
  · have h := ifT e3 h
    refine u_ld (v := .ref 271) (pc := 18) (dec_at lsk_236 (k := 12) rfl) rfl ?_
    refine u_gS (o := 1) (p := 272) (pc := 19) (dec_at lsk_236 (k := 13) rfl) f_12_7 sx_271 rfl rfl ?_
    refine u_ld (v := iV l4) (pc := 22) (dec_at lsk_236 (k := 14) rfl) rfl ?_
    have g4 := h.1
    have h := h.2
    have g5 := h.1
    have h := h.2
    refine u_iald (pc := 24) (dec_at lsk_236 (k := 15) rfl) sx_272 g4 g5 ?_
    refine u_sto (lv' := [.ref 271, iV l1, iV l2, iV l3, iV l4, iV (u.1 272 l4), .retAddr 0]) (pc := 25) (dec_at lsk_236 (k := 16) rfl) rfl ?_
    refine u_ld (v := iV (u.1 272 l4)) (pc := 27) (dec_at lsk_236 (k := 17) rfl) rfl ?_
    refine u_c (x := 32) (pc := 29) (dec_at lsk_236 (k := 18) rfl) rfl (by decide) ?_
    have g6 := h.1
    have h := h.2
    refine u_icF (pc := 31) (tgt := 37) (dec_at lsk_236 (k := 19) rfl) rfl (ci_ne g6 (by decide)) (fun e7 => ?_) (fun e7 => ?_)
    · have h := ifT e7 h
      refine u_goto (pc := 34) (tgt := 209) (dec_at lsk_236 (k := 20) rfl) rfl ?_
      refine u_inc (lv' := [.ref 271, iV l1, iV l2, iV l3, iV (l4 + 1), iV (u.1 272 l4), .retAddr 0]) (pc := 209) (dec_at lsk_236 (k := 110) rfl) rfl (by decide) rfl ?_
      refine u_goto (pc := 212) (tgt := 9) (dec_at lsk_236 (k := 111) rfl) rfl ?_
      exact u_weak (sbK (sbK (sbK (sbK (sbK (sbD (sbK sb0))))))) h
    · have h := ifF e7 h
      refine u_ld (v := .ref 271) (pc := 37) (dec_at lsk_236 (k := 21) rfl) rfl ?_
      refine u_ld (v := iV (u.1 272 l4)) (pc := 38) (dec_at lsk_236 (k := 22) rfl) rfl ?_
      refine u_cvI (As := [iV (u.1 272 l4)]) (rb := 271) (st2 := []) (pc := 40) (dec_at lsk_236 (k := 23) rfl) m_12_419 (Or.inl rfl) rfl (Nat.le_of_ble_eq_true rfl) sx_271 me_237 rfl ?_ (fun _ _ h_ => h_)
      refine u_of me_237 (Nat.le_of_ble_eq_true rfl) ?_
      refine u_ld (v := iV (u.1 272 l4)) (pc := 0) (dec_at lsk_237 (k := 0) rfl) rfl ?_
      refine u_csI (As := [iV (u.1 272 l4)]) (st2 := []) (pc := 1) (dec_at lsk_237 (k := 1) rfl) m_12_258 (Or.inl rfl) rfl (Nat.le_of_ble_eq_true rfl) ?_ (fun _ _ h_ => h_)
      refine u_of me_205 (Nat.le_of_ble_eq_true rfl) ?_
      refine u_ld (v := iV (u.1 272 l4)) (pc := 0) (dec_at lsk_205 (k := 0) rfl) rfl ?_
      refine u_c (x := 97) (pc := 1) (dec_at lsk_205 (k := 1) rfl) rfl (by decide) ?_
      refine u_icT (pc := 3) (tgt := 16) (dec_at lsk_205 (k := 2) rfl) rfl (ci_lt g6 (by decide)) (fun e8 => ?_) (fun e8 => ?_)
      · have h := ifT e8 h
        refine u_ld (v := iV 0) (pc := 16) (dec_at lsk_205 (k := 8) rfl) rfl ?_
        refine u_rZ (pc := 17) (dec_at lsk_205 (k := 9) rfl) rfl (by decide) ?_
        refine u_ifF (pc := 4) (tgt := 19) (dec_at lsk_237 (k := 2) rfl) rfl (c0_ne (by decide)) (fun _ => ?_) (fun e => absurd e (by decide))
        refine u_ld (v := iV (u.1 272 l4)) (pc := 7) (dec_at lsk_237 (k := 3) rfl) rfl ?_
        refine u_c (x := 46) (pc := 8) (dec_at lsk_237 (k := 4) rfl) rfl (by decide) ?_
        refine u_icT (pc := 10) (tgt := 19) (dec_at lsk_237 (k := 5) rfl) rfl (ci_eq g6 (by decide)) (fun e9 => ?_) (fun e9 => ?_)
        · have h := ifT e9 h
          refine u_ld (v := iV 1) (pc := 19) (dec_at lsk_237 (k := 9) rfl) rfl ?_
          refine u_goto (pc := 20) (tgt := 24) (dec_at lsk_237 (k := 10) rfl) rfl ?_
          refine u_rZ (pc := 24) (dec_at lsk_237 (k := 12) rfl) rfl (by decide) ?_
          refine u_ifT (pc := 43) (tgt := 56) (dec_at lsk_236 (k := 24) rfl) rfl (c0_eq (by decide)) (fun e => absurd e (by decide)) (fun _ => ?_)
          refine u_ld (v := iV 1) (pc := 46) (dec_at lsk_236 (k := 25) rfl) rfl ?_
          refine u_sto (lv' := [.ref 271, iV l1, iV l2, iV l3, iV l4, iV (u.1 272 l4), iV 1]) (pc := 47) (dec_at lsk_236 (k := 26) rfl) rfl ?_
          refine u_ld (v := iV 0) (pc := 49) (dec_at lsk_236 (k := 27) rfl) rfl ?_
          refine u_sto (lv' := [.ref 271, iV l1, iV 0, iV l3, iV l4, iV (u.1 272 l4), iV 1]) (pc := 50) (dec_at lsk_236 (k := 28) rfl) rfl ?_
          refine u_ld (v := iV 1) (pc := 51) (dec_at lsk_236 (k := 29) rfl) rfl ?_
          refine u_sto (lv' := [.ref 271, iV l1, iV 0, iV 1, iV l4, iV (u.1 272 l4), iV 1]) (pc := 52) (dec_at lsk_236 (k := 30) rfl) rfl ?_
          refine u_goto (pc := 53) (tgt := 201) (dec_at lsk_236 (k := 31) rfl) rfl ?_
          refine u_ld (v := iV 1) (pc := 201) (dec_at lsk_236 (k := 106) rfl) rfl ?_
          refine u_ifF (pc := 203) (tgt := 209) (dec_at lsk_236 (k := 107) rfl) rfl (c0_ne (by decide)) (fun e => absurd e (by decide)) (fun _ => ?_)
          refine u_inc (lv' := [.ref 271, iV l1, iV 0, iV 1, iV (l4 + 1), iV (u.1 272 l4), iV 1]) (pc := 209) (dec_at lsk_236 (k := 110) rfl) rfl (by decide) rfl ?_
          refine u_goto (pc := 212) (tgt := 9) (dec_at lsk_236 (k := 111) rfl) rfl ?_
          exact u_weak (sbK (sbK (sbK (sbK (sbK (sbD (sbD sb0))))))) h
        · have h := ifF e9 h
          refine u_ld (v := iV (u.1 272 l4)) (pc := 13) (dec_at lsk_237 (k := 6) rfl) rfl ?_
          refine u_c (x := 48) (pc := 14) (dec_at lsk_237 (k := 7) rfl) rfl (by decide) ?_
          refine u_icF (pc := 16) (tgt := 23) (dec_at lsk_237 (k := 8) rfl) rfl (ci_ne g6 (by decide)) (fun e10 => ?_) (fun e10 => ?_)
          · have h := ifT e10 h
            refine u_ld (v := iV 1) (pc := 19) (dec_at lsk_237 (k := 9) rfl) rfl ?_
            refine u_goto (pc := 20) (tgt := 24) (dec_at lsk_237 (k := 10) rfl) rfl ?_
            refine u_rZ (pc := 24) (dec_at lsk_237 (k := 12) rfl) rfl (by decide) ?_
            refine u_ifT (pc := 43) (tgt := 56) (dec_at lsk_236 (k := 24) rfl) rfl (c0_eq (by decide)) (fun e => absurd e (by decide)) (fun _ => ?_)
            refine u_ld (v := iV 1) (pc := 46) (dec_at lsk_236 (k := 25) rfl) rfl ?_
            refine u_sto (lv' := [.ref 271, iV l1, iV l2, iV l3, iV l4, iV (u.1 272 l4), iV 1]) (pc := 47) (dec_at lsk_236 (k := 26) rfl) rfl ?_
            refine u_ld (v := iV 0) (pc := 49) (dec_at lsk_236 (k := 27) rfl) rfl ?_
            refine u_sto (lv' := [.ref 271, iV l1, iV 0, iV l3, iV l4, iV (u.1 272 l4), iV 1]) (pc := 50) (dec_at lsk_236 (k := 28) rfl) rfl ?_
            refine u_ld (v := iV 1) (pc := 51) (dec_at lsk_236 (k := 29) rfl) rfl ?_
            refine u_sto (lv' := [.ref 271, iV l1, iV 0, iV 1, iV l4, iV (u.1 272 l4), iV 1]) (pc := 52) (dec_at lsk_236 (k := 30) rfl) rfl ?_
            refine u_goto (pc := 53) (tgt := 201) (dec_at lsk_236 (k := 31) rfl) rfl ?_
            refine u_ld (v := iV 1) (pc := 201) (dec_at lsk_236 (k := 106) rfl) rfl ?_
            refine u_ifF (pc := 203) (tgt := 209) (dec_at lsk_236 (k := 107) rfl) rfl (c0_ne (by decide)) (fun e => absurd e (by decide)) (fun _ => ?_)
            refine u_inc (lv' := [.ref 271, iV l1, iV 0, iV 1, iV (l4 + 1), iV (u.1 272 l4), iV 1]) (pc := 209) (dec_at lsk_236 (k := 110) rfl) rfl (by decide) rfl ?_
            refine u_goto (pc := 212) (tgt := 9) (dec_at lsk_236 (k := 111) rfl) rfl ?_
            exact u_weak (sbK (sbK (sbK (sbK (sbK (sbD (sbD sb0))))))) h
          · have h := ifF e10 h
            refine u_ld (v := iV 0) (pc := 23) (dec_at lsk_237 (k := 11) rfl) rfl ?_
            refine u_rZ (pc := 24) (dec_at lsk_237 (k := 12) rfl) rfl (by decide) ?_
            refine u_ifT (pc := 43) (tgt := 56) (dec_at lsk_236 (k := 24) rfl) rfl (c0_eq (by decide)) (fun _ => ?_) (fun e => absurd e (by decide))
            refine u_ld (v := iV (u.1 272 l4)) (pc := 56) (dec_at lsk_236 (k := 32) rfl) rfl ?_
            refine u_c (x := 33) (pc := 58) (dec_at lsk_236 (k := 33) rfl) rfl (by decide) ?_
            refine u_icT (pc := 60) (tgt := 70) (dec_at lsk_236 (k := 34) rfl) rfl (ci_eq g6 (by decide)) (fun e11 => ?_) (fun e11 => ?_)
            · have h := ifT e11 h
              refine u_ld (v := iV (u.1 272 l4)) (pc := 70) (dec_at lsk_236 (k := 38) rfl) rfl ?_
              refine u_c (x := 33) (pc := 72) (dec_at lsk_236 (k := 39) rfl) rfl (by decide) ?_
              refine u_icT (pc := 74) (tgt := 83) (dec_at lsk_236 (k := 40) rfl) rfl (ci_eq g6 (by decide)) (fun _ => ?_) (fun e12 => absurd e11 e12)
              refine u_ld (v := iV 1) (pc := 83) (dec_at lsk_236 (k := 44) rfl) rfl ?_
              refine u_goto (pc := 84) (tgt := 88) (dec_at lsk_236 (k := 45) rfl) rfl ?_
              exact u_weak (sbK (sbK (sbD (sbD (sbK (sbK (sbK sb0))))))) h
            · have h := ifF e11 h
              refine u_ld (v := iV (u.1 272 l4)) (pc := 63) (dec_at lsk_236 (k := 35) rfl) rfl ?_
              refine u_c (x := 40) (pc := 65) (dec_at lsk_236 (k := 36) rfl) rfl (by decide) ?_
              refine u_icF (pc := 67) (tgt := 123) (dec_at lsk_236 (k := 37) rfl) rfl (ci_ne g6 (by decide)) (fun e13 => ?_) (fun e13 => ?_)
              · have h := ifT e13 h
                refine u_ld (v := iV (u.1 272 l4)) (pc := 70) (dec_at lsk_236 (k := 38) rfl) rfl ?_
                refine u_c (x := 33) (pc := 72) (dec_at lsk_236 (k := 39) rfl) rfl (by decide) ?_
                refine u_icT (pc := 74) (tgt := 83) (dec_at lsk_236 (k := 40) rfl) rfl (ci_eq g6 (by decide)) (fun e14 => absurd e14 e11) (fun _ => ?_)
                refine u_ld (v := iV l1) (pc := 77) (dec_at lsk_236 (k := 41) rfl) rfl ?_
                refine u_c (x := 15) (pc := 78) (dec_at lsk_236 (k := 42) rfl) rfl (by decide) ?_
                have g15 := h.1
                have h := h.2
                refine u_icF (pc := 80) (tgt := 87) (dec_at lsk_236 (k := 43) rfl) rfl (ci_ge g15 (by decide)) (fun e16 => ?_) (fun e16 => ?_)
                · have h := ifT e16 h
                  refine u_ld (v := iV 1) (pc := 83) (dec_at lsk_236 (k := 44) rfl) rfl ?_
                  refine u_goto (pc := 84) (tgt := 88) (dec_at lsk_236 (k := 45) rfl) rfl ?_
                  exact u_weak (sbK (sbK (sbD (sbD (sbK (sbK (sbK sb0))))))) h
                · have h := ifF e16 h
                  refine u_ld (v := iV 0) (pc := 87) (dec_at lsk_236 (k := 46) rfl) rfl ?_
                  exact u_weak (sbK (sbK (sbD (sbD (sbK (sbK (sbK sb0))))))) h
              · have h := ifF e13 h
                refine u_ld (v := iV (u.1 272 l4)) (pc := 123) (dec_at lsk_236 (k := 67) rfl) rfl ?_
                refine u_csI (As := [iV (u.1 272 l4)]) (st2 := []) (pc := 125) (dec_at lsk_236 (k := 68) rfl) m_12_422 (Or.inl rfl) rfl (Nat.le_of_ble_eq_true rfl) ?_ (fun _ _ h_ => h_)
                refine u_of me_238 (Nat.le_of_ble_eq_true rfl) ?_
                refine u_ld (v := iV (u.1 272 l4)) (pc := 0) (dec_at lsk_238 (k := 0) rfl) rfl ?_
                refine u_c (x := 42) (pc := 1) (dec_at lsk_238 (k := 1) rfl) rfl (by decide) ?_
                refine u_icT (pc := 3) (tgt := 18) (dec_at lsk_238 (k := 2) rfl) rfl (ci_eq g6 (by decide)) (fun e17 => ?_) (fun e17 => ?_)
                · have h := ifT e17 h
                  refine u_ld (v := iV 1) (pc := 18) (dec_at lsk_238 (k := 9) rfl) rfl ?_
                  refine u_goto (pc := 19) (tgt := 23) (dec_at lsk_238 (k := 10) rfl) rfl ?_
                  refine u_rZ (pc := 23) (dec_at lsk_238 (k := 12) rfl) rfl (by decide) ?_
                  refine u_ifT (pc := 128) (tgt := 137) (dec_at lsk_236 (k := 69) rfl) rfl (c0_eq (by decide)) (fun e => absurd e (by decide)) (fun _ => ?_)
                  refine u_ld (v := iV l3) (pc := 131) (dec_at lsk_236 (k := 70) rfl) rfl ?_
                  refine u_sto (lv' := [.ref 271, iV l1, iV l2, iV l3, iV l4, iV (u.1 272 l4), iV l3]) (pc := 132) (dec_at lsk_236 (k := 71) rfl) rfl ?_
                  refine u_goto (pc := 134) (tgt := 201) (dec_at lsk_236 (k := 72) rfl) rfl ?_
                  refine u_ld (v := iV l3) (pc := 201) (dec_at lsk_236 (k := 106) rfl) rfl ?_
                  have g18 := h.1
                  have h := h.2
                  refine u_ifF (pc := 203) (tgt := 209) (dec_at lsk_236 (k := 107) rfl) rfl (c0_ne g18) (fun e19 => ?_) (fun e19 => ?_)
                  · have h := ifT e19 h
                    refine u_ld (v := iV l4) (pc := 206) (dec_at lsk_236 (k := 108) rfl) rfl ?_
                    exact u_rI (pc := 208) (dec_at lsk_236 (k := 109) rfl) rfl h
                  · have h := ifF e19 h
                    refine u_inc (lv' := [.ref 271, iV l1, iV l2, iV l3, iV (l4 + 1), iV (u.1 272 l4), iV l3]) (pc := 209) (dec_at lsk_236 (k := 110) rfl) rfl (by decide) rfl ?_
                    refine u_goto (pc := 212) (tgt := 9) (dec_at lsk_236 (k := 111) rfl) rfl ?_
                    exact u_weak (sbK (sbK (sbK (sbK (sbK (sbD (sbD sb0))))))) h
                · have h := ifF e17 h
                  refine u_ld (v := iV (u.1 272 l4)) (pc := 6) (dec_at lsk_238 (k := 3) rfl) rfl ?_
                  refine u_c (x := 43) (pc := 7) (dec_at lsk_238 (k := 4) rfl) rfl (by decide) ?_
                  refine u_icT (pc := 9) (tgt := 18) (dec_at lsk_238 (k := 5) rfl) rfl (ci_eq g6 (by decide)) (fun e20 => ?_) (fun e20 => ?_)
                  · have h := ifT e20 h
                    refine u_ld (v := iV 1) (pc := 18) (dec_at lsk_238 (k := 9) rfl) rfl ?_
                    refine u_goto (pc := 19) (tgt := 23) (dec_at lsk_238 (k := 10) rfl) rfl ?_
                    refine u_rZ (pc := 23) (dec_at lsk_238 (k := 12) rfl) rfl (by decide) ?_
                    refine u_ifT (pc := 128) (tgt := 137) (dec_at lsk_236 (k := 69) rfl) rfl (c0_eq (by decide)) (fun e => absurd e (by decide)) (fun _ => ?_)
                    refine u_ld (v := iV l3) (pc := 131) (dec_at lsk_236 (k := 70) rfl) rfl ?_
                    refine u_sto (lv' := [.ref 271, iV l1, iV l2, iV l3, iV l4, iV (u.1 272 l4), iV l3]) (pc := 132) (dec_at lsk_236 (k := 71) rfl) rfl ?_
                    refine u_goto (pc := 134) (tgt := 201) (dec_at lsk_236 (k := 72) rfl) rfl ?_
                    refine u_ld (v := iV l3) (pc := 201) (dec_at lsk_236 (k := 106) rfl) rfl ?_
                    have g21 := h.1
                    have h := h.2
                    refine u_ifF (pc := 203) (tgt := 209) (dec_at lsk_236 (k := 107) rfl) rfl (c0_ne g21) (fun e22 => ?_) (fun e22 => ?_)
                    · have h := ifT e22 h
                      refine u_ld (v := iV l4) (pc := 206) (dec_at lsk_236 (k := 108) rfl) rfl ?_
                      exact u_rI (pc := 208) (dec_at lsk_236 (k := 109) rfl) rfl h
                    · have h := ifF e22 h
                      refine u_inc (lv' := [.ref 271, iV l1, iV l2, iV l3, iV (l4 + 1), iV (u.1 272 l4), iV l3]) (pc := 209) (dec_at lsk_236 (k := 110) rfl) rfl (by decide) rfl ?_
                      refine u_goto (pc := 212) (tgt := 9) (dec_at lsk_236 (k := 111) rfl) rfl ?_
                      exact u_weak (sbK (sbK (sbK (sbK (sbK (sbD (sbD sb0))))))) h
                  · have h := ifF e20 h
                    refine u_ld (v := iV (u.1 272 l4)) (pc := 12) (dec_at lsk_238 (k := 6) rfl) rfl ?_
                    refine u_c (x := 63) (pc := 13) (dec_at lsk_238 (k := 7) rfl) rfl (by decide) ?_
                    refine u_icF (pc := 15) (tgt := 22) (dec_at lsk_238 (k := 8) rfl) rfl (ci_ne g6 (by decide)) (fun e23 => ?_) (fun e23 => ?_)
                    · have h := ifT e23 h
                      refine u_ld (v := iV 1) (pc := 18) (dec_at lsk_238 (k := 9) rfl) rfl ?_
                      refine u_goto (pc := 19) (tgt := 23) (dec_at lsk_238 (k := 10) rfl) rfl ?_
                      refine u_rZ (pc := 23) (dec_at lsk_238 (k := 12) rfl) rfl (by decide) ?_
                      refine u_ifT (pc := 128) (tgt := 137) (dec_at lsk_236 (k := 69) rfl) rfl (c0_eq (by decide)) (fun e => absurd e (by decide)) (fun _ => ?_)
                      refine u_ld (v := iV l3) (pc := 131) (dec_at lsk_236 (k := 70) rfl) rfl ?_
                      refine u_sto (lv' := [.ref 271, iV l1, iV l2, iV l3, iV l4, iV (u.1 272 l4), iV l3]) (pc := 132) (dec_at lsk_236 (k := 71) rfl) rfl ?_
                      refine u_goto (pc := 134) (tgt := 201) (dec_at lsk_236 (k := 72) rfl) rfl ?_
                      refine u_ld (v := iV l3) (pc := 201) (dec_at lsk_236 (k := 106) rfl) rfl ?_
                      have g24 := h.1
                      have h := h.2
                      refine u_ifF (pc := 203) (tgt := 209) (dec_at lsk_236 (k := 107) rfl) rfl (c0_ne g24) (fun e25 => ?_) (fun e25 => ?_)
                      · have h := ifT e25 h
                        refine u_ld (v := iV l4) (pc := 206) (dec_at lsk_236 (k := 108) rfl) rfl ?_
                        exact u_rI (pc := 208) (dec_at lsk_236 (k := 109) rfl) rfl h
                      · have h := ifF e25 h
                        refine u_inc (lv' := [.ref 271, iV l1, iV l2, iV l3, iV (l4 + 1), iV (u.1 272 l4), iV l3]) (pc := 209) (dec_at lsk_236 (k := 110) rfl) rfl (by decide) rfl ?_
                        refine u_goto (pc := 212) (tgt := 9) (dec_at lsk_236 (k := 111) rfl) rfl ?_
                        exact u_weak (sbK (sbK (sbK (sbK (sbK (sbD (sbD sb0))))))) h
                    · have h := ifF e23 h
                      refine u_ld (v := iV 0) (pc := 22) (dec_at lsk_238 (k := 11) rfl) rfl ?_
                      refine u_rZ (pc := 23) (dec_at lsk_238 (k := 12) rfl) rfl (by decide) ?_
                      refine u_ifT (pc := 128) (tgt := 137) (dec_at lsk_236 (k := 69) rfl) rfl (c0_eq (by decide)) (fun _ => ?_) (fun e => absurd e (by decide))
                      refine u_ld (v := iV l2) (pc := 137) (dec_at lsk_236 (k := 73) rfl) rfl ?_
                      have g26 := h.1
                      have h := h.2
                      refine u_ifF (pc := 138) (tgt := 170) (dec_at lsk_236 (k := 74) rfl) rfl (c0_ne g26) (fun e27 => ?_) (fun e27 => ?_)
                      · have h := ifT e27 h
                        refine u_ld (v := iV (u.1 272 l4)) (pc := 141) (dec_at lsk_236 (k := 75) rfl) rfl ?_
                        refine u_c (x := 124) (pc := 143) (dec_at lsk_236 (k := 76) rfl) rfl (by decide) ?_
                        refine u_icT (pc := 145) (tgt := 166) (dec_at lsk_236 (k := 77) rfl) rfl (ci_eq g6 (by decide)) (fun e28 => ?_) (fun e28 => ?_)
                        · have h := ifT e28 h
                          refine u_ld (v := iV 1) (pc := 166) (dec_at lsk_236 (k := 86) rfl) rfl ?_
                          refine u_goto (pc := 167) (tgt := 171) (dec_at lsk_236 (k := 87) rfl) rfl ?_
                          exact u_weak (sbK (sbK (sbK (sbD (sbK (sbK (sbK sb0))))))) h
                        · have h := ifF e28 h
                          refine u_ld (v := iV (u.1 272 l4)) (pc := 148) (dec_at lsk_236 (k := 78) rfl) rfl ?_
                          refine u_c (x := 38) (pc := 150) (dec_at lsk_236 (k := 79) rfl) rfl (by decide) ?_
                          refine u_icT (pc := 152) (tgt := 166) (dec_at lsk_236 (k := 80) rfl) rfl (ci_eq g6 (by decide)) (fun e29 => ?_) (fun e29 => ?_)
                          · have h := ifT e29 h
                            refine u_ld (v := iV 1) (pc := 166) (dec_at lsk_236 (k := 86) rfl) rfl ?_
                            refine u_goto (pc := 167) (tgt := 171) (dec_at lsk_236 (k := 87) rfl) rfl ?_
                            exact u_weak (sbK (sbK (sbK (sbD (sbK (sbK (sbK sb0))))))) h
                          · have h := ifF e29 h
                            refine u_ld (v := iV (u.1 272 l4)) (pc := 155) (dec_at lsk_236 (k := 81) rfl) rfl ?_
                            refine u_c (x := 41) (pc := 157) (dec_at lsk_236 (k := 82) rfl) rfl (by decide) ?_
                            refine u_icF (pc := 159) (tgt := 170) (dec_at lsk_236 (k := 83) rfl) rfl (ci_ne g6 (by decide)) (fun e30 => ?_) (fun e30 => ?_)
                            · have h := ifT e30 h
                              refine u_ld (v := iV l1) (pc := 162) (dec_at lsk_236 (k := 84) rfl) rfl ?_
                              have g31 := h.1
                              have h := h.2
                              refine u_ifF (pc := 163) (tgt := 170) (dec_at lsk_236 (k := 85) rfl) rfl (c0_le g31) (fun e32 => ?_) (fun e32 => ?_)
                              · have h := ifT e32 h
                                refine u_ld (v := iV 1) (pc := 166) (dec_at lsk_236 (k := 86) rfl) rfl ?_
                                refine u_goto (pc := 167) (tgt := 171) (dec_at lsk_236 (k := 87) rfl) rfl ?_
                                exact u_weak (sbK (sbK (sbK (sbD (sbK (sbK (sbK sb0))))))) h
                              · have h := ifF e32 h
                                refine u_ld (v := iV 0) (pc := 170) (dec_at lsk_236 (k := 88) rfl) rfl ?_
                                exact u_weak (sbK (sbK (sbK (sbD (sbK (sbK (sbK sb0))))))) h
                            · have h := ifF e30 h
                              refine u_ld (v := iV 0) (pc := 170) (dec_at lsk_236 (k := 88) rfl) rfl ?_
                              exact u_weak (sbK (sbK (sbK (sbD (sbK (sbK (sbK sb0))))))) h
                      · have h := ifF e27 h
                        refine u_ld (v := iV 0) (pc := 170) (dec_at lsk_236 (k := 88) rfl) rfl ?_
                        exact u_weak (sbK (sbK (sbK (sbD (sbK (sbK (sbK sb0))))))) h
      · have h := ifF e8 h
        refine u_ld (v := iV (u.1 272 l4)) (pc := 6) (dec_at lsk_205 (k := 3) rfl) rfl ?_
        refine u_c (x := 106) (pc := 7) (dec_at lsk_205 (k := 4) rfl) rfl (by decide) ?_
        refine u_icT (pc := 9) (tgt := 16) (dec_at lsk_205 (k := 5) rfl) rfl (ci_gt g6 (by decide)) (fun e33 => ?_) (fun e33 => ?_)
        · have h := ifT e33 h
          refine u_ld (v := iV 0) (pc := 16) (dec_at lsk_205 (k := 8) rfl) rfl ?_
          refine u_rZ (pc := 17) (dec_at lsk_205 (k := 9) rfl) rfl (by decide) ?_
          refine u_ifF (pc := 4) (tgt := 19) (dec_at lsk_237 (k := 2) rfl) rfl (c0_ne (by decide)) (fun _ => ?_) (fun e => absurd e (by decide))
          refine u_ld (v := iV (u.1 272 l4)) (pc := 7) (dec_at lsk_237 (k := 3) rfl) rfl ?_
          refine u_c (x := 46) (pc := 8) (dec_at lsk_237 (k := 4) rfl) rfl (by decide) ?_
          refine u_icT (pc := 10) (tgt := 19) (dec_at lsk_237 (k := 5) rfl) rfl (ci_eq g6 (by decide)) (fun e34 => ?_) (fun e34 => ?_)
          · have h := ifT e34 h
            refine u_ld (v := iV 1) (pc := 19) (dec_at lsk_237 (k := 9) rfl) rfl ?_
            refine u_goto (pc := 20) (tgt := 24) (dec_at lsk_237 (k := 10) rfl) rfl ?_
            refine u_rZ (pc := 24) (dec_at lsk_237 (k := 12) rfl) rfl (by decide) ?_
            refine u_ifT (pc := 43) (tgt := 56) (dec_at lsk_236 (k := 24) rfl) rfl (c0_eq (by decide)) (fun e => absurd e (by decide)) (fun _ => ?_)
            refine u_ld (v := iV 1) (pc := 46) (dec_at lsk_236 (k := 25) rfl) rfl ?_
            refine u_sto (lv' := [.ref 271, iV l1, iV l2, iV l3, iV l4, iV (u.1 272 l4), iV 1]) (pc := 47) (dec_at lsk_236 (k := 26) rfl) rfl ?_
            refine u_ld (v := iV 0) (pc := 49) (dec_at lsk_236 (k := 27) rfl) rfl ?_
            refine u_sto (lv' := [.ref 271, iV l1, iV 0, iV l3, iV l4, iV (u.1 272 l4), iV 1]) (pc := 50) (dec_at lsk_236 (k := 28) rfl) rfl ?_
            refine u_ld (v := iV 1) (pc := 51) (dec_at lsk_236 (k := 29) rfl) rfl ?_
            refine u_sto (lv' := [.ref 271, iV l1, iV 0, iV 1, iV l4, iV (u.1 272 l4), iV 1]) (pc := 52) (dec_at lsk_236 (k := 30) rfl) rfl ?_
            refine u_goto (pc := 53) (tgt := 201) (dec_at lsk_236 (k := 31) rfl) rfl ?_
            refine u_ld (v := iV 1) (pc := 201) (dec_at lsk_236 (k := 106) rfl) rfl ?_
            refine u_ifF (pc := 203) (tgt := 209) (dec_at lsk_236 (k := 107) rfl) rfl (c0_ne (by decide)) (fun e => absurd e (by decide)) (fun _ => ?_)
            refine u_inc (lv' := [.ref 271, iV l1, iV 0, iV 1, iV (l4 + 1), iV (u.1 272 l4), iV 1]) (pc := 209) (dec_at lsk_236 (k := 110) rfl) rfl (by decide) rfl ?_
            refine u_goto (pc := 212) (tgt := 9) (dec_at lsk_236 (k := 111) rfl) rfl ?_
            exact u_weak (sbK (sbK (sbK (sbK (sbK (sbD (sbD sb0))))))) h
          · have h := ifF e34 h
            refine u_ld (v := iV (u.1 272 l4)) (pc := 13) (dec_at lsk_237 (k := 6) rfl) rfl ?_
            refine u_c (x := 48) (pc := 14) (dec_at lsk_237 (k := 7) rfl) rfl (by decide) ?_
            refine u_icF (pc := 16) (tgt := 23) (dec_at lsk_237 (k := 8) rfl) rfl (ci_ne g6 (by decide)) (fun e35 => ?_) (fun e35 => ?_)
            · have h := ifT e35 h
              refine u_ld (v := iV 1) (pc := 19) (dec_at lsk_237 (k := 9) rfl) rfl ?_
              refine u_goto (pc := 20) (tgt := 24) (dec_at lsk_237 (k := 10) rfl) rfl ?_
              refine u_rZ (pc := 24) (dec_at lsk_237 (k := 12) rfl) rfl (by decide) ?_
              refine u_ifT (pc := 43) (tgt := 56) (dec_at lsk_236 (k := 24) rfl) rfl (c0_eq (by decide)) (fun e => absurd e (by decide)) (fun _ => ?_)
              refine u_ld (v := iV 1) (pc := 46) (dec_at lsk_236 (k := 25) rfl) rfl ?_
              refine u_sto (lv' := [.ref 271, iV l1, iV l2, iV l3, iV l4, iV (u.1 272 l4), iV 1]) (pc := 47) (dec_at lsk_236 (k := 26) rfl) rfl ?_
              refine u_ld (v := iV 0) (pc := 49) (dec_at lsk_236 (k := 27) rfl) rfl ?_
              refine u_sto (lv' := [.ref 271, iV l1, iV 0, iV l3, iV l4, iV (u.1 272 l4), iV 1]) (pc := 50) (dec_at lsk_236 (k := 28) rfl) rfl ?_
              refine u_ld (v := iV 1) (pc := 51) (dec_at lsk_236 (k := 29) rfl) rfl ?_
              refine u_sto (lv' := [.ref 271, iV l1, iV 0, iV 1, iV l4, iV (u.1 272 l4), iV 1]) (pc := 52) (dec_at lsk_236 (k := 30) rfl) rfl ?_
              refine u_goto (pc := 53) (tgt := 201) (dec_at lsk_236 (k := 31) rfl) rfl ?_
              refine u_ld (v := iV 1) (pc := 201) (dec_at lsk_236 (k := 106) rfl) rfl ?_
              refine u_ifF (pc := 203) (tgt := 209) (dec_at lsk_236 (k := 107) rfl) rfl (c0_ne (by decide)) (fun e => absurd e (by decide)) (fun _ => ?_)
              refine u_inc (lv' := [.ref 271, iV l1, iV 0, iV 1, iV (l4 + 1), iV (u.1 272 l4), iV 1]) (pc := 209) (dec_at lsk_236 (k := 110) rfl) rfl (by decide) rfl ?_
              refine u_goto (pc := 212) (tgt := 9) (dec_at lsk_236 (k := 111) rfl) rfl ?_
              exact u_weak (sbK (sbK (sbK (sbK (sbK (sbD (sbD sb0))))))) h
            · have h := ifF e35 h
              refine u_ld (v := iV 0) (pc := 23) (dec_at lsk_237 (k := 11) rfl) rfl ?_
              refine u_rZ (pc := 24) (dec_at lsk_237 (k := 12) rfl) rfl (by decide) ?_
              refine u_ifT (pc := 43) (tgt := 56) (dec_at lsk_236 (k := 24) rfl) rfl (c0_eq (by decide)) (fun _ => ?_) (fun e => absurd e (by decide))
              refine u_ld (v := iV (u.1 272 l4)) (pc := 56) (dec_at lsk_236 (k := 32) rfl) rfl ?_
              refine u_c (x := 33) (pc := 58) (dec_at lsk_236 (k := 33) rfl) rfl (by decide) ?_
              refine u_icT (pc := 60) (tgt := 70) (dec_at lsk_236 (k := 34) rfl) rfl (ci_eq g6 (by decide)) (fun e36 => ?_) (fun e36 => ?_)
              · have h := ifT e36 h
                refine u_ld (v := iV (u.1 272 l4)) (pc := 70) (dec_at lsk_236 (k := 38) rfl) rfl ?_
                refine u_c (x := 33) (pc := 72) (dec_at lsk_236 (k := 39) rfl) rfl (by decide) ?_
                refine u_icT (pc := 74) (tgt := 83) (dec_at lsk_236 (k := 40) rfl) rfl (ci_eq g6 (by decide)) (fun _ => ?_) (fun e37 => absurd e36 e37)
                refine u_ld (v := iV 1) (pc := 83) (dec_at lsk_236 (k := 44) rfl) rfl ?_
                refine u_goto (pc := 84) (tgt := 88) (dec_at lsk_236 (k := 45) rfl) rfl ?_
                exact u_weak (sbK (sbK (sbD (sbD (sbK (sbK (sbK sb0))))))) h
              · have h := ifF e36 h
                refine u_ld (v := iV (u.1 272 l4)) (pc := 63) (dec_at lsk_236 (k := 35) rfl) rfl ?_
                refine u_c (x := 40) (pc := 65) (dec_at lsk_236 (k := 36) rfl) rfl (by decide) ?_
                refine u_icF (pc := 67) (tgt := 123) (dec_at lsk_236 (k := 37) rfl) rfl (ci_ne g6 (by decide)) (fun e38 => ?_) (fun e38 => ?_)
                · have h := ifT e38 h
                  refine u_ld (v := iV (u.1 272 l4)) (pc := 70) (dec_at lsk_236 (k := 38) rfl) rfl ?_
                  refine u_c (x := 33) (pc := 72) (dec_at lsk_236 (k := 39) rfl) rfl (by decide) ?_
                  refine u_icT (pc := 74) (tgt := 83) (dec_at lsk_236 (k := 40) rfl) rfl (ci_eq g6 (by decide)) (fun e39 => absurd e39 e36) (fun _ => ?_)
                  refine u_ld (v := iV l1) (pc := 77) (dec_at lsk_236 (k := 41) rfl) rfl ?_
                  refine u_c (x := 15) (pc := 78) (dec_at lsk_236 (k := 42) rfl) rfl (by decide) ?_
                  have g40 := h.1
                  have h := h.2
                  refine u_icF (pc := 80) (tgt := 87) (dec_at lsk_236 (k := 43) rfl) rfl (ci_ge g40 (by decide)) (fun e41 => ?_) (fun e41 => ?_)
                  · have h := ifT e41 h
                    refine u_ld (v := iV 1) (pc := 83) (dec_at lsk_236 (k := 44) rfl) rfl ?_
                    refine u_goto (pc := 84) (tgt := 88) (dec_at lsk_236 (k := 45) rfl) rfl ?_
                    exact u_weak (sbK (sbK (sbD (sbD (sbK (sbK (sbK sb0))))))) h
                  · have h := ifF e41 h
                    refine u_ld (v := iV 0) (pc := 87) (dec_at lsk_236 (k := 46) rfl) rfl ?_
                    exact u_weak (sbK (sbK (sbD (sbD (sbK (sbK (sbK sb0))))))) h
                · have h := ifF e38 h
                  refine u_ld (v := iV (u.1 272 l4)) (pc := 123) (dec_at lsk_236 (k := 67) rfl) rfl ?_
                  refine u_csI (As := [iV (u.1 272 l4)]) (st2 := []) (pc := 125) (dec_at lsk_236 (k := 68) rfl) m_12_422 (Or.inl rfl) rfl (Nat.le_of_ble_eq_true rfl) ?_ (fun _ _ h_ => h_)
                  refine u_of me_238 (Nat.le_of_ble_eq_true rfl) ?_
                  refine u_ld (v := iV (u.1 272 l4)) (pc := 0) (dec_at lsk_238 (k := 0) rfl) rfl ?_
                  refine u_c (x := 42) (pc := 1) (dec_at lsk_238 (k := 1) rfl) rfl (by decide) ?_
                  refine u_icT (pc := 3) (tgt := 18) (dec_at lsk_238 (k := 2) rfl) rfl (ci_eq g6 (by decide)) (fun e42 => ?_) (fun e42 => ?_)
                  · have h := ifT e42 h
                    refine u_ld (v := iV 1) (pc := 18) (dec_at lsk_238 (k := 9) rfl) rfl ?_
                    refine u_goto (pc := 19) (tgt := 23) (dec_at lsk_238 (k := 10) rfl) rfl ?_
                    refine u_rZ (pc := 23) (dec_at lsk_238 (k := 12) rfl) rfl (by decide) ?_
                    refine u_ifT (pc := 128) (tgt := 137) (dec_at lsk_236 (k := 69) rfl) rfl (c0_eq (by decide)) (fun e => absurd e (by decide)) (fun _ => ?_)
                    refine u_ld (v := iV l3) (pc := 131) (dec_at lsk_236 (k := 70) rfl) rfl ?_
                    refine u_sto (lv' := [.ref 271, iV l1, iV l2, iV l3, iV l4, iV (u.1 272 l4), iV l3]) (pc := 132) (dec_at lsk_236 (k := 71) rfl) rfl ?_
                    refine u_goto (pc := 134) (tgt := 201) (dec_at lsk_236 (k := 72) rfl) rfl ?_
                    refine u_ld (v := iV l3) (pc := 201) (dec_at lsk_236 (k := 106) rfl) rfl ?_
                    have g43 := h.1
                    have h := h.2
                    refine u_ifF (pc := 203) (tgt := 209) (dec_at lsk_236 (k := 107) rfl) rfl (c0_ne g43) (fun e44 => ?_) (fun e44 => ?_)
                    · have h := ifT e44 h
                      refine u_ld (v := iV l4) (pc := 206) (dec_at lsk_236 (k := 108) rfl) rfl ?_
                      exact u_rI (pc := 208) (dec_at lsk_236 (k := 109) rfl) rfl h
                    · have h := ifF e44 h
                      refine u_inc (lv' := [.ref 271, iV l1, iV l2, iV l3, iV (l4 + 1), iV (u.1 272 l4), iV l3]) (pc := 209) (dec_at lsk_236 (k := 110) rfl) rfl (by decide) rfl ?_
                      refine u_goto (pc := 212) (tgt := 9) (dec_at lsk_236 (k := 111) rfl) rfl ?_
                      exact u_weak (sbK (sbK (sbK (sbK (sbK (sbD (sbD sb0))))))) h
                  · have h := ifF e42 h
                    refine u_ld (v := iV (u.1 272 l4)) (pc := 6) (dec_at lsk_238 (k := 3) rfl) rfl ?_
                    refine u_c (x := 43) (pc := 7) (dec_at lsk_238 (k := 4) rfl) rfl (by decide) ?_
                    refine u_icT (pc := 9) (tgt := 18) (dec_at lsk_238 (k := 5) rfl) rfl (ci_eq g6 (by decide)) (fun e45 => ?_) (fun e45 => ?_)
                    · have h := ifT e45 h
                      refine u_ld (v := iV 1) (pc := 18) (dec_at lsk_238 (k := 9) rfl) rfl ?_
                      refine u_goto (pc := 19) (tgt := 23) (dec_at lsk_238 (k := 10) rfl) rfl ?_
                      refine u_rZ (pc := 23) (dec_at lsk_238 (k := 12) rfl) rfl (by decide) ?_
                      refine u_ifT (pc := 128) (tgt := 137) (dec_at lsk_236 (k := 69) rfl) rfl (c0_eq (by decide)) (fun e => absurd e (by decide)) (fun _ => ?_)
                      refine u_ld (v := iV l3) (pc := 131) (dec_at lsk_236 (k := 70) rfl) rfl ?_
                      refine u_sto (lv' := [.ref 271, iV l1, iV l2, iV l3, iV l4, iV (u.1 272 l4), iV l3]) (pc := 132) (dec_at lsk_236 (k := 71) rfl) rfl ?_
                      refine u_goto (pc := 134) (tgt := 201) (dec_at lsk_236 (k := 72) rfl) rfl ?_
                      refine u_ld (v := iV l3) (pc := 201) (dec_at lsk_236 (k := 106) rfl) rfl ?_
                      have g46 := h.1
                      have h := h.2
                      refine u_ifF (pc := 203) (tgt := 209) (dec_at lsk_236 (k := 107) rfl) rfl (c0_ne g46) (fun e47 => ?_) (fun e47 => ?_)
                      · have h := ifT e47 h
                        refine u_ld (v := iV l4) (pc := 206) (dec_at lsk_236 (k := 108) rfl) rfl ?_
                        exact u_rI (pc := 208) (dec_at lsk_236 (k := 109) rfl) rfl h
                      · have h := ifF e47 h
                        refine u_inc (lv' := [.ref 271, iV l1, iV l2, iV l3, iV (l4 + 1), iV (u.1 272 l4), iV l3]) (pc := 209) (dec_at lsk_236 (k := 110) rfl) rfl (by decide) rfl ?_
                        refine u_goto (pc := 212) (tgt := 9) (dec_at lsk_236 (k := 111) rfl) rfl ?_
                        exact u_weak (sbK (sbK (sbK (sbK (sbK (sbD (sbD sb0))))))) h
                    · have h := ifF e45 h
                      refine u_ld (v := iV (u.1 272 l4)) (pc := 12) (dec_at lsk_238 (k := 6) rfl) rfl ?_
                      refine u_c (x := 63) (pc := 13) (dec_at lsk_238 (k := 7) rfl) rfl (by decide) ?_
                      refine u_icF (pc := 15) (tgt := 22) (dec_at lsk_238 (k := 8) rfl) rfl (ci_ne g6 (by decide)) (fun e48 => ?_) (fun e48 => ?_)
                      · have h := ifT e48 h
                        refine u_ld (v := iV 1) (pc := 18) (dec_at lsk_238 (k := 9) rfl) rfl ?_
                        refine u_goto (pc := 19) (tgt := 23) (dec_at lsk_238 (k := 10) rfl) rfl ?_
                        refine u_rZ (pc := 23) (dec_at lsk_238 (k := 12) rfl) rfl (by decide) ?_
                        refine u_ifT (pc := 128) (tgt := 137) (dec_at lsk_236 (k := 69) rfl) rfl (c0_eq (by decide)) (fun e => absurd e (by decide)) (fun _ => ?_)
                        refine u_ld (v := iV l3) (pc := 131) (dec_at lsk_236 (k := 70) rfl) rfl ?_
                        refine u_sto (lv' := [.ref 271, iV l1, iV l2, iV l3, iV l4, iV (u.1 272 l4), iV l3]) (pc := 132) (dec_at lsk_236 (k := 71) rfl) rfl ?_
                        refine u_goto (pc := 134) (tgt := 201) (dec_at lsk_236 (k := 72) rfl) rfl ?_
                        refine u_ld (v := iV l3) (pc := 201) (dec_at lsk_236 (k := 106) rfl) rfl ?_
                        have g49 := h.1
                        have h := h.2
                        refine u_ifF (pc := 203) (tgt := 209) (dec_at lsk_236 (k := 107) rfl) rfl (c0_ne g49) (fun e50 => ?_) (fun e50 => ?_)
                        · have h := ifT e50 h
                          refine u_ld (v := iV l4) (pc := 206) (dec_at lsk_236 (k := 108) rfl) rfl ?_
                          exact u_rI (pc := 208) (dec_at lsk_236 (k := 109) rfl) rfl h
                        · have h := ifF e50 h
                          refine u_inc (lv' := [.ref 271, iV l1, iV l2, iV l3, iV (l4 + 1), iV (u.1 272 l4), iV l3]) (pc := 209) (dec_at lsk_236 (k := 110) rfl) rfl (by decide) rfl ?_
                          refine u_goto (pc := 212) (tgt := 9) (dec_at lsk_236 (k := 111) rfl) rfl ?_
                          exact u_weak (sbK (sbK (sbK (sbK (sbK (sbD (sbD sb0))))))) h
                      · have h := ifF e48 h
                        refine u_ld (v := iV 0) (pc := 22) (dec_at lsk_238 (k := 11) rfl) rfl ?_
                        refine u_rZ (pc := 23) (dec_at lsk_238 (k := 12) rfl) rfl (by decide) ?_
                        refine u_ifT (pc := 128) (tgt := 137) (dec_at lsk_236 (k := 69) rfl) rfl (c0_eq (by decide)) (fun _ => ?_) (fun e => absurd e (by decide))
                        refine u_ld (v := iV l2) (pc := 137) (dec_at lsk_236 (k := 73) rfl) rfl ?_
                        have g51 := h.1
                        have h := h.2
                        refine u_ifF (pc := 138) (tgt := 170) (dec_at lsk_236 (k := 74) rfl) rfl (c0_ne g51) (fun e52 => ?_) (fun e52 => ?_)
                        · have h := ifT e52 h
                          refine u_ld (v := iV (u.1 272 l4)) (pc := 141) (dec_at lsk_236 (k := 75) rfl) rfl ?_
                          refine u_c (x := 124) (pc := 143) (dec_at lsk_236 (k := 76) rfl) rfl (by decide) ?_
                          refine u_icT (pc := 145) (tgt := 166) (dec_at lsk_236 (k := 77) rfl) rfl (ci_eq g6 (by decide)) (fun e53 => ?_) (fun e53 => ?_)
                          · have h := ifT e53 h
                            refine u_ld (v := iV 1) (pc := 166) (dec_at lsk_236 (k := 86) rfl) rfl ?_
                            refine u_goto (pc := 167) (tgt := 171) (dec_at lsk_236 (k := 87) rfl) rfl ?_
                            exact u_weak (sbK (sbK (sbK (sbD (sbK (sbK (sbK sb0))))))) h
                          · have h := ifF e53 h
                            refine u_ld (v := iV (u.1 272 l4)) (pc := 148) (dec_at lsk_236 (k := 78) rfl) rfl ?_
                            refine u_c (x := 38) (pc := 150) (dec_at lsk_236 (k := 79) rfl) rfl (by decide) ?_
                            refine u_icT (pc := 152) (tgt := 166) (dec_at lsk_236 (k := 80) rfl) rfl (ci_eq g6 (by decide)) (fun e54 => ?_) (fun e54 => ?_)
                            · have h := ifT e54 h
                              refine u_ld (v := iV 1) (pc := 166) (dec_at lsk_236 (k := 86) rfl) rfl ?_
                              refine u_goto (pc := 167) (tgt := 171) (dec_at lsk_236 (k := 87) rfl) rfl ?_
                              exact u_weak (sbK (sbK (sbK (sbD (sbK (sbK (sbK sb0))))))) h
                            · have h := ifF e54 h
                              refine u_ld (v := iV (u.1 272 l4)) (pc := 155) (dec_at lsk_236 (k := 81) rfl) rfl ?_
                              refine u_c (x := 41) (pc := 157) (dec_at lsk_236 (k := 82) rfl) rfl (by decide) ?_
                              refine u_icF (pc := 159) (tgt := 170) (dec_at lsk_236 (k := 83) rfl) rfl (ci_ne g6 (by decide)) (fun e55 => ?_) (fun e55 => ?_)
                              · have h := ifT e55 h
                                refine u_ld (v := iV l1) (pc := 162) (dec_at lsk_236 (k := 84) rfl) rfl ?_
                                have g56 := h.1
                                have h := h.2
                                refine u_ifF (pc := 163) (tgt := 170) (dec_at lsk_236 (k := 85) rfl) rfl (c0_le g56) (fun e57 => ?_) (fun e57 => ?_)
                                · have h := ifT e57 h
                                  refine u_ld (v := iV 1) (pc := 166) (dec_at lsk_236 (k := 86) rfl) rfl ?_
                                  refine u_goto (pc := 167) (tgt := 171) (dec_at lsk_236 (k := 87) rfl) rfl ?_
                                  exact u_weak (sbK (sbK (sbK (sbD (sbK (sbK (sbK sb0))))))) h
                                · have h := ifF e57 h
                                  refine u_ld (v := iV 0) (pc := 170) (dec_at lsk_236 (k := 88) rfl) rfl ?_
                                  exact u_weak (sbK (sbK (sbK (sbD (sbK (sbK (sbK sb0))))))) h
                              · have h := ifF e55 h
                                refine u_ld (v := iV 0) (pc := 170) (dec_at lsk_236 (k := 88) rfl) rfl ?_
                                exact u_weak (sbK (sbK (sbK (sbD (sbK (sbK (sbK sb0))))))) h
                        · have h := ifF e52 h
                          refine u_ld (v := iV 0) (pc := 170) (dec_at lsk_236 (k := 88) rfl) rfl ?_
                          exact u_weak (sbK (sbK (sbK (sbD (sbK (sbK (sbK sb0))))))) h
        · have h := ifF e33 h
          refine u_ld (v := iV 1) (pc := 12) (dec_at lsk_205 (k := 6) rfl) rfl ?_
          refine u_goto (pc := 13) (tgt := 17) (dec_at lsk_205 (k := 7) rfl) rfl ?_
          refine u_rZ (pc := 17) (dec_at lsk_205 (k := 9) rfl) rfl (by decide) ?_
          refine u_ifF (pc := 4) (tgt := 19) (dec_at lsk_237 (k := 2) rfl) rfl (c0_ne (by decide)) (fun e => absurd e (by decide)) (fun _ => ?_)
          refine u_ld (v := iV 1) (pc := 19) (dec_at lsk_237 (k := 9) rfl) rfl ?_
          refine u_goto (pc := 20) (tgt := 24) (dec_at lsk_237 (k := 10) rfl) rfl ?_
          refine u_rZ (pc := 24) (dec_at lsk_237 (k := 12) rfl) rfl (by decide) ?_
          refine u_ifT (pc := 43) (tgt := 56) (dec_at lsk_236 (k := 24) rfl) rfl (c0_eq (by decide)) (fun e => absurd e (by decide)) (fun _ => ?_)
          refine u_ld (v := iV 1) (pc := 46) (dec_at lsk_236 (k := 25) rfl) rfl ?_
          refine u_sto (lv' := [.ref 271, iV l1, iV l2, iV l3, iV l4, iV (u.1 272 l4), iV 1]) (pc := 47) (dec_at lsk_236 (k := 26) rfl) rfl ?_
          refine u_ld (v := iV 0) (pc := 49) (dec_at lsk_236 (k := 27) rfl) rfl ?_
          refine u_sto (lv' := [.ref 271, iV l1, iV 0, iV l3, iV l4, iV (u.1 272 l4), iV 1]) (pc := 50) (dec_at lsk_236 (k := 28) rfl) rfl ?_
          refine u_ld (v := iV 1) (pc := 51) (dec_at lsk_236 (k := 29) rfl) rfl ?_
          refine u_sto (lv' := [.ref 271, iV l1, iV 0, iV 1, iV l4, iV (u.1 272 l4), iV 1]) (pc := 52) (dec_at lsk_236 (k := 30) rfl) rfl ?_
          refine u_goto (pc := 53) (tgt := 201) (dec_at lsk_236 (k := 31) rfl) rfl ?_
          refine u_ld (v := iV 1) (pc := 201) (dec_at lsk_236 (k := 106) rfl) rfl ?_
          refine u_ifF (pc := 203) (tgt := 209) (dec_at lsk_236 (k := 107) rfl) rfl (c0_ne (by decide)) (fun e => absurd e (by decide)) (fun _ => ?_)
          refine u_inc (lv' := [.ref 271, iV l1, iV 0, iV 1, iV (l4 + 1), iV (u.1 272 l4), iV 1]) (pc := 209) (dec_at lsk_236 (k := 110) rfl) rfl (by decide) rfl ?_
          refine u_goto (pc := 212) (tgt := 9) (dec_at lsk_236 (k := 111) rfl) rfl ?_
          exact u_weak (sbK (sbK (sbK (sbK (sbK (sbD (sbD sb0))))))) h
  · have h := ifF e3 h
    refine u_ld (v := iV l1) (pc := 215) (dec_at lsk_236 (k := 112) rfl) rfl ?_
    have g58 := h.1
    have h := h.2
    refine u_ifT (pc := 216) (tgt := 223) (dec_at lsk_236 (k := 113) rfl) rfl (c0_gt g58) (fun e59 => ?_) (fun e59 => ?_)
    · have h := ifT e59 h
      refine u_ld (v := .ref 271) (pc := 223) (dec_at lsk_236 (k := 116) rfl) rfl ?_
      refine u_gI (z := 1) (pc := 224) (dec_at lsk_236 (k := 117) rfl) f_12_254 sx_271 rfl rfl ?_
      refine u_goto (pc := 227) (tgt := 232) (dec_at lsk_236 (k := 118) rfl) rfl ?_
      exact u_rI (pc := 232) (dec_at lsk_236 (k := 120) rfl) rfl h
    · have h := ifF e59 h
      refine u_ld (v := iV l2) (pc := 219) (dec_at lsk_236 (k := 114) rfl) rfl ?_
      have g60 := h.1
      have h := h.2
      refine u_ifT (pc := 220) (tgt := 230) (dec_at lsk_236 (k := 115) rfl) rfl (c0_eq g60) (fun e61 => ?_) (fun e61 => ?_)
      · have h := ifT e61 h
        refine u_c (x := (-2)) (pc := 230) (dec_at lsk_236 (k := 119) rfl) rfl (by decide) ?_
        exact u_rI (pc := 232) (dec_at lsk_236 (k := 120) rfl) rfl h
      · have h := ifF e61 h
        refine u_ld (v := .ref 271) (pc := 223) (dec_at lsk_236 (k := 116) rfl) rfl ?_
        refine u_gI (z := 1) (pc := 224) (dec_at lsk_236 (k := 117) rfl) f_12_254 sx_271 rfl rfl ?_
        refine u_goto (pc := 227) (tgt := 232) (dec_at lsk_236 (k := 118) rfl) rfl ?_
        exact u_rI (pc := 232) (dec_at lsk_236 (k := 120) rfl) rfl h
theorem k_236_88 {d : Nat} {Q : Int → uS → Prop} {u : uS} {l1 l4 l5 s0 : Int} (h : (rI l5) ∧ (if l5 = 40 then (if l5 = 33 then ((rI s0) ∧ (if s0 = 0 then (Q l4 u) else (K_236 (d + 2) 9 [.ref 271, iV (l1 + 1), iV 1, iV 0, iV (l4 + 1), .retAddr 0, .retAddr 0] [] u Q))) else ((rI s0) ∧ (if s0 = 0 then (Q l4 u) else (K_236 (d + 2) 9 [.ref 271, iV (l1 + 1), iV 0, iV 0, iV (l4 + 1), .retAddr 0, .retAddr 0] [] u Q)))) else (if l5 = 33 then ((rI s0) ∧ (if s0 = 0 then (Q l4 u) else (K_236 (d + 2) 9 [.ref 271, iV (l1 + 0), iV 1, iV 0, iV (l4 + 1), .retAddr 0, .retAddr 0] [] u Q))) else ((rI s0) ∧ (if s0 = 0 then (Q l4 u) else (K_236 (d + 2) 9 [.ref 271, iV (l1 + 0), iV 0, iV 0, iV (l4 + 1), .retAddr 0, .retAddr 0] [] u Q)))))) : K_236 (d + 2) 88 [.ref 271, iV l1, .retAddr 0, .retAddr 0, iV l4, iV l5, .retAddr 0] [iV s0] u Q := by
  unfold K_236
  refine u_sto (lv' := [.ref 271, iV l1, .retAddr 0, .retAddr 0, iV l4, iV l5, iV s0]) (pc := 88) (dec_at lsk_236 (k := 47) rfl) rfl ?_
  refine u_ld (v := iV l1) (pc := 90) (dec_at lsk_236 (k := 48) rfl) rfl ?_
  refine u_ld (v := iV l5) (pc := 91) (dec_at lsk_236 (k := 49) rfl) rfl ?_
  refine u_c (x := 40) (pc := 93) (dec_at lsk_236 (k := 50) rfl) rfl (by decide) ?_
  have g1 := h.1
  have h := h.2
  refine u_icF (pc := 95) (tgt := 102) (dec_at lsk_236 (k := 51) rfl) rfl (ci_ne g1 (by decide)) (fun e2 => ?_) (fun e2 => ?_)
  · have h := ifT e2 h
    refine u_ld (v := iV 1) (pc := 98) (dec_at lsk_236 (k := 52) rfl) rfl ?_
    refine u_goto (pc := 99) (tgt := 103) (dec_at lsk_236 (k := 53) rfl) rfl ?_
    refine u_iadd (pc := 103) (dec_at lsk_236 (k := 55) rfl) ?_
    refine u_sto (lv' := [.ref 271, iV (l1 + 1), .retAddr 0, .retAddr 0, iV l4, iV l5, iV s0]) (pc := 104) (dec_at lsk_236 (k := 56) rfl) rfl ?_
    refine u_ld (v := iV l5) (pc := 105) (dec_at lsk_236 (k := 57) rfl) rfl ?_
    refine u_c (x := 33) (pc := 107) (dec_at lsk_236 (k := 58) rfl) rfl (by decide) ?_
    refine u_icF (pc := 109) (tgt := 116) (dec_at lsk_236 (k := 59) rfl) rfl (ci_ne g1 (by decide)) (fun e3 => ?_) (fun e3 => ?_)
    · have h := ifT e3 h
      refine u_ld (v := iV 1) (pc := 112) (dec_at lsk_236 (k := 60) rfl) rfl ?_
      refine u_goto (pc := 113) (tgt := 117) (dec_at lsk_236 (k := 61) rfl) rfl ?_
      refine u_sto (lv' := [.ref 271, iV (l1 + 1), iV 1, .retAddr 0, iV l4, iV l5, iV s0]) (pc := 117) (dec_at lsk_236 (k := 63) rfl) rfl ?_
      refine u_ld (v := iV 0) (pc := 118) (dec_at lsk_236 (k := 64) rfl) rfl ?_
      refine u_sto (lv' := [.ref 271, iV (l1 + 1), iV 1, iV 0, iV l4, iV l5, iV s0]) (pc := 119) (dec_at lsk_236 (k := 65) rfl) rfl ?_
      refine u_goto (pc := 120) (tgt := 201) (dec_at lsk_236 (k := 66) rfl) rfl ?_
      refine u_ld (v := iV s0) (pc := 201) (dec_at lsk_236 (k := 106) rfl) rfl ?_
      have g4 := h.1
      have h := h.2
      refine u_ifF (pc := 203) (tgt := 209) (dec_at lsk_236 (k := 107) rfl) rfl (c0_ne g4) (fun e5 => ?_) (fun e5 => ?_)
      · have h := ifT e5 h
        refine u_ld (v := iV l4) (pc := 206) (dec_at lsk_236 (k := 108) rfl) rfl ?_
        exact u_rI (pc := 208) (dec_at lsk_236 (k := 109) rfl) rfl h
      · have h := ifF e5 h
        refine u_inc (lv' := [.ref 271, iV (l1 + 1), iV 1, iV 0, iV (l4 + 1), iV l5, iV s0]) (pc := 209) (dec_at lsk_236 (k := 110) rfl) rfl (by decide) rfl ?_
        refine u_goto (pc := 212) (tgt := 9) (dec_at lsk_236 (k := 111) rfl) rfl ?_
        exact u_weak (sbK (sbK (sbK (sbK (sbK (sbD (sbD sb0))))))) h
    · have h := ifF e3 h
      refine u_ld (v := iV 0) (pc := 116) (dec_at lsk_236 (k := 62) rfl) rfl ?_
      refine u_sto (lv' := [.ref 271, iV (l1 + 1), iV 0, .retAddr 0, iV l4, iV l5, iV s0]) (pc := 117) (dec_at lsk_236 (k := 63) rfl) rfl ?_
      refine u_ld (v := iV 0) (pc := 118) (dec_at lsk_236 (k := 64) rfl) rfl ?_
      refine u_sto (lv' := [.ref 271, iV (l1 + 1), iV 0, iV 0, iV l4, iV l5, iV s0]) (pc := 119) (dec_at lsk_236 (k := 65) rfl) rfl ?_
      refine u_goto (pc := 120) (tgt := 201) (dec_at lsk_236 (k := 66) rfl) rfl ?_
      refine u_ld (v := iV s0) (pc := 201) (dec_at lsk_236 (k := 106) rfl) rfl ?_
      have g6 := h.1
      have h := h.2
      refine u_ifF (pc := 203) (tgt := 209) (dec_at lsk_236 (k := 107) rfl) rfl (c0_ne g6) (fun e7 => ?_) (fun e7 => ?_)
      · have h := ifT e7 h
        refine u_ld (v := iV l4) (pc := 206) (dec_at lsk_236 (k := 108) rfl) rfl ?_
        exact u_rI (pc := 208) (dec_at lsk_236 (k := 109) rfl) rfl h
      · have h := ifF e7 h
        refine u_inc (lv' := [.ref 271, iV (l1 + 1), iV 0, iV 0, iV (l4 + 1), iV l5, iV s0]) (pc := 209) (dec_at lsk_236 (k := 110) rfl) rfl (by decide) rfl ?_
        refine u_goto (pc := 212) (tgt := 9) (dec_at lsk_236 (k := 111) rfl) rfl ?_
        exact u_weak (sbK (sbK (sbK (sbK (sbK (sbD (sbD sb0))))))) h
  · have h := ifF e2 h
    refine u_ld (v := iV 0) (pc := 102) (dec_at lsk_236 (k := 54) rfl) rfl ?_
    refine u_iadd (pc := 103) (dec_at lsk_236 (k := 55) rfl) ?_
    refine u_sto (lv' := [.ref 271, iV (l1 + 0), .retAddr 0, .retAddr 0, iV l4, iV l5, iV s0]) (pc := 104) (dec_at lsk_236 (k := 56) rfl) rfl ?_
    refine u_ld (v := iV l5) (pc := 105) (dec_at lsk_236 (k := 57) rfl) rfl ?_
    refine u_c (x := 33) (pc := 107) (dec_at lsk_236 (k := 58) rfl) rfl (by decide) ?_
    refine u_icF (pc := 109) (tgt := 116) (dec_at lsk_236 (k := 59) rfl) rfl (ci_ne g1 (by decide)) (fun e8 => ?_) (fun e8 => ?_)
    · have h := ifT e8 h
      refine u_ld (v := iV 1) (pc := 112) (dec_at lsk_236 (k := 60) rfl) rfl ?_
      refine u_goto (pc := 113) (tgt := 117) (dec_at lsk_236 (k := 61) rfl) rfl ?_
      refine u_sto (lv' := [.ref 271, iV (l1 + 0), iV 1, .retAddr 0, iV l4, iV l5, iV s0]) (pc := 117) (dec_at lsk_236 (k := 63) rfl) rfl ?_
      refine u_ld (v := iV 0) (pc := 118) (dec_at lsk_236 (k := 64) rfl) rfl ?_
      refine u_sto (lv' := [.ref 271, iV (l1 + 0), iV 1, iV 0, iV l4, iV l5, iV s0]) (pc := 119) (dec_at lsk_236 (k := 65) rfl) rfl ?_
      refine u_goto (pc := 120) (tgt := 201) (dec_at lsk_236 (k := 66) rfl) rfl ?_
      refine u_ld (v := iV s0) (pc := 201) (dec_at lsk_236 (k := 106) rfl) rfl ?_
      have g9 := h.1
      have h := h.2
      refine u_ifF (pc := 203) (tgt := 209) (dec_at lsk_236 (k := 107) rfl) rfl (c0_ne g9) (fun e10 => ?_) (fun e10 => ?_)
      · have h := ifT e10 h
        refine u_ld (v := iV l4) (pc := 206) (dec_at lsk_236 (k := 108) rfl) rfl ?_
        exact u_rI (pc := 208) (dec_at lsk_236 (k := 109) rfl) rfl h
      · have h := ifF e10 h
        refine u_inc (lv' := [.ref 271, iV (l1 + 0), iV 1, iV 0, iV (l4 + 1), iV l5, iV s0]) (pc := 209) (dec_at lsk_236 (k := 110) rfl) rfl (by decide) rfl ?_
        refine u_goto (pc := 212) (tgt := 9) (dec_at lsk_236 (k := 111) rfl) rfl ?_
        exact u_weak (sbK (sbK (sbK (sbK (sbK (sbD (sbD sb0))))))) h
    · have h := ifF e8 h
      refine u_ld (v := iV 0) (pc := 116) (dec_at lsk_236 (k := 62) rfl) rfl ?_
      refine u_sto (lv' := [.ref 271, iV (l1 + 0), iV 0, .retAddr 0, iV l4, iV l5, iV s0]) (pc := 117) (dec_at lsk_236 (k := 63) rfl) rfl ?_
      refine u_ld (v := iV 0) (pc := 118) (dec_at lsk_236 (k := 64) rfl) rfl ?_
      refine u_sto (lv' := [.ref 271, iV (l1 + 0), iV 0, iV 0, iV l4, iV l5, iV s0]) (pc := 119) (dec_at lsk_236 (k := 65) rfl) rfl ?_
      refine u_goto (pc := 120) (tgt := 201) (dec_at lsk_236 (k := 66) rfl) rfl ?_
      refine u_ld (v := iV s0) (pc := 201) (dec_at lsk_236 (k := 106) rfl) rfl ?_
      have g11 := h.1
      have h := h.2
      refine u_ifF (pc := 203) (tgt := 209) (dec_at lsk_236 (k := 107) rfl) rfl (c0_ne g11) (fun e12 => ?_) (fun e12 => ?_)
      · have h := ifT e12 h
        refine u_ld (v := iV l4) (pc := 206) (dec_at lsk_236 (k := 108) rfl) rfl ?_
        exact u_rI (pc := 208) (dec_at lsk_236 (k := 109) rfl) rfl h
      · have h := ifF e12 h
        refine u_inc (lv' := [.ref 271, iV (l1 + 0), iV 0, iV 0, iV (l4 + 1), iV l5, iV s0]) (pc := 209) (dec_at lsk_236 (k := 110) rfl) rfl (by decide) rfl ?_
        refine u_goto (pc := 212) (tgt := 9) (dec_at lsk_236 (k := 111) rfl) rfl ?_
        exact u_weak (sbK (sbK (sbK (sbK (sbK (sbD (sbD sb0))))))) h
theorem k_236_171 {d : Nat} {Q : Int → uS → Prop} {u : uS} {l1 l2 l4 l5 s0 : Int} (h : (rI l5) ∧ (if l5 = 41 then ((rI s0) ∧ (if s0 = 0 then (Q l4 u) else (K_236 (d + 2) 9 [.ref 271, iV (l1 - 1), iV l2, iV 1, iV (l4 + 1), .retAddr 0, .retAddr 0] [] u Q))) else ((rI s0) ∧ (if s0 = 0 then (Q l4 u) else (K_236 (d + 2) 9 [.ref 271, iV (l1 - 0), iV l2, iV 0, iV (l4 + 1), .retAddr 0, .retAddr 0] [] u Q))))) : K_236 (d + 2) 171 [.ref 271, iV l1, iV l2, .retAddr 0, iV l4, iV l5, .retAddr 0] [iV s0] u Q := by
  unfold K_236
  refine u_sto (lv' := [.ref 271, iV l1, iV l2, .retAddr 0, iV l4, iV l5, iV s0]) (pc := 171) (dec_at lsk_236 (k := 89) rfl) rfl ?_
  refine u_ld (v := iV l1) (pc := 173) (dec_at lsk_236 (k := 90) rfl) rfl ?_
  refine u_ld (v := iV l5) (pc := 174) (dec_at lsk_236 (k := 91) rfl) rfl ?_
  refine u_c (x := 41) (pc := 176) (dec_at lsk_236 (k := 92) rfl) rfl (by decide) ?_
  have g1 := h.1
  have h := h.2
  refine u_icF (pc := 178) (tgt := 185) (dec_at lsk_236 (k := 93) rfl) rfl (ci_ne g1 (by decide)) (fun e2 => ?_) (fun e2 => ?_)
  · have h := ifT e2 h
    refine u_ld (v := iV 1) (pc := 181) (dec_at lsk_236 (k := 94) rfl) rfl ?_
    refine u_goto (pc := 182) (tgt := 186) (dec_at lsk_236 (k := 95) rfl) rfl ?_
    refine u_isub (pc := 186) (dec_at lsk_236 (k := 97) rfl) ?_
    refine u_sto (lv' := [.ref 271, iV (l1 - 1), iV l2, .retAddr 0, iV l4, iV l5, iV s0]) (pc := 187) (dec_at lsk_236 (k := 98) rfl) rfl ?_
    refine u_ld (v := iV l5) (pc := 188) (dec_at lsk_236 (k := 99) rfl) rfl ?_
    refine u_c (x := 41) (pc := 190) (dec_at lsk_236 (k := 100) rfl) rfl (by decide) ?_
    refine u_icF (pc := 192) (tgt := 199) (dec_at lsk_236 (k := 101) rfl) rfl (ci_ne g1 (by decide)) (fun _ => ?_) (fun e3 => absurd e2 e3)
    refine u_ld (v := iV 1) (pc := 195) (dec_at lsk_236 (k := 102) rfl) rfl ?_
    refine u_goto (pc := 196) (tgt := 200) (dec_at lsk_236 (k := 103) rfl) rfl ?_
    refine u_sto (lv' := [.ref 271, iV (l1 - 1), iV l2, iV 1, iV l4, iV l5, iV s0]) (pc := 200) (dec_at lsk_236 (k := 105) rfl) rfl ?_
    refine u_ld (v := iV s0) (pc := 201) (dec_at lsk_236 (k := 106) rfl) rfl ?_
    have g4 := h.1
    have h := h.2
    refine u_ifF (pc := 203) (tgt := 209) (dec_at lsk_236 (k := 107) rfl) rfl (c0_ne g4) (fun e5 => ?_) (fun e5 => ?_)
    · have h := ifT e5 h
      refine u_ld (v := iV l4) (pc := 206) (dec_at lsk_236 (k := 108) rfl) rfl ?_
      exact u_rI (pc := 208) (dec_at lsk_236 (k := 109) rfl) rfl h
    · have h := ifF e5 h
      refine u_inc (lv' := [.ref 271, iV (l1 - 1), iV l2, iV 1, iV (l4 + 1), iV l5, iV s0]) (pc := 209) (dec_at lsk_236 (k := 110) rfl) rfl (by decide) rfl ?_
      refine u_goto (pc := 212) (tgt := 9) (dec_at lsk_236 (k := 111) rfl) rfl ?_
      exact u_weak (sbK (sbK (sbK (sbK (sbK (sbD (sbD sb0))))))) h
  · have h := ifF e2 h
    refine u_ld (v := iV 0) (pc := 185) (dec_at lsk_236 (k := 96) rfl) rfl ?_
    refine u_isub (pc := 186) (dec_at lsk_236 (k := 97) rfl) ?_
    refine u_sto (lv' := [.ref 271, iV (l1 - 0), iV l2, .retAddr 0, iV l4, iV l5, iV s0]) (pc := 187) (dec_at lsk_236 (k := 98) rfl) rfl ?_
    refine u_ld (v := iV l5) (pc := 188) (dec_at lsk_236 (k := 99) rfl) rfl ?_
    refine u_c (x := 41) (pc := 190) (dec_at lsk_236 (k := 100) rfl) rfl (by decide) ?_
    refine u_icF (pc := 192) (tgt := 199) (dec_at lsk_236 (k := 101) rfl) rfl (ci_ne g1 (by decide)) (fun e6 => absurd e6 e2) (fun _ => ?_)
    refine u_ld (v := iV 0) (pc := 199) (dec_at lsk_236 (k := 104) rfl) rfl ?_
    refine u_sto (lv' := [.ref 271, iV (l1 - 0), iV l2, iV 0, iV l4, iV l5, iV s0]) (pc := 200) (dec_at lsk_236 (k := 105) rfl) rfl ?_
    refine u_ld (v := iV s0) (pc := 201) (dec_at lsk_236 (k := 106) rfl) rfl ?_
    have g7 := h.1
    have h := h.2
    refine u_ifF (pc := 203) (tgt := 209) (dec_at lsk_236 (k := 107) rfl) rfl (c0_ne g7) (fun e8 => ?_) (fun e8 => ?_)
    · have h := ifT e8 h
      refine u_ld (v := iV l4) (pc := 206) (dec_at lsk_236 (k := 108) rfl) rfl ?_
      exact u_rI (pc := 208) (dec_at lsk_236 (k := 109) rfl) rfl h
    · have h := ifF e8 h
      refine u_inc (lv' := [.ref 271, iV (l1 - 0), iV l2, iV 0, iV (l4 + 1), iV l5, iV s0]) (pc := 209) (dec_at lsk_236 (k := 110) rfl) rfl (by decide) rfl ?_
      refine u_goto (pc := 212) (tgt := 9) (dec_at lsk_236 (k := 111) rfl) rfl ?_
      exact u_weak (sbK (sbK (sbK (sbK (sbK (sbD (sbD sb0))))))) h
/-- method 239 -/
def K_239 (d pc : Nat) (lv : ev_L) (st : List Value) (u : uS) (Q : uS → Prop) : Prop := okU d 12 1 false none prog_14_method_54_code (qV Q) pc lv st u
theorem e_239 {d : Nat} {Q : uS → Prop} {u : uS} (h : (0 ≤ u.1 271 61) ∧ ((u.1 271 61 < 17) ∧ (∀ u3 : uS, u3 = wr u 314 (u.1 271 61) (-2) → ((0 ≤ u3.1 271 61) ∧ ((u3.1 271 61 < 17) ∧ (∀ u7 : uS, u7 = wr u3 315 (u3.1 271 61) (-2) → ((0 ≤ u7.1 271 61) ∧ ((u7.1 271 61 < 17) ∧ (∀ u11 : uS, u11 = wr u7 316 (u7.1 271 61) (-2) → ((0 ≤ u11.1 271 61) ∧ ((u11.1 271 61 < 17) ∧ (∀ u15 : uS, u15 = wr u11 317 (u11.1 271 61) (-2) → ((0 ≤ u15.1 271 61) ∧ ((u15.1 271 61 < 17) ∧ (∀ u19 : uS, u19 = wr u15 319 (u15.1 271 61) 0 → (∀ u21 : uS, u21 = wr u19 271 61 ((u19.1 271 61) + 1) → (Q u21))))))))))))))))) : cV (d + 1) 239 [.ref 271] u Q := by
  refine u_of me_239 (Nat.le_of_ble_eq_true rfl) ?_
  refine u_ld (v := .ref 271) (pc := 0) (dec_at lsk_239 (k := 0) rfl) rfl ?_
  refine u_gS (o := 43) (p := 314) (pc := 1) (dec_at lsk_239 (k := 1) rfl) f_12_139 sx_271 rfl rfl ?_
  refine u_ld (v := .ref 271) (pc := 4) (dec_at lsk_239 (k := 2) rfl) rfl ?_
  refine u_gI (z := 61) (pc := 5) (dec_at lsk_239 (k := 3) rfl) f_12_425 sx_271 rfl rfl ?_
  refine u_c (x := (-2)) (pc := 8) (dec_at lsk_239 (k := 4) rfl) rfl (by decide) ?_
  have g1 := h.1
  have h := h.2
  have g2 := h.1
  have h := h.2
  refine u_iast (pc := 10) (dec_at lsk_239 (k := 5) rfl) sx_314 g1 g2 (fun u3 e4 => ?_)
  have h := h u3 e4
  refine u_ld (v := .ref 271) (pc := 11) (dec_at lsk_239 (k := 6) rfl) rfl ?_
  refine u_gS (o := 44) (p := 315) (pc := 12) (dec_at lsk_239 (k := 7) rfl) f_12_142 sx_271 rfl rfl ?_
  refine u_ld (v := .ref 271) (pc := 15) (dec_at lsk_239 (k := 8) rfl) rfl ?_
  refine u_gI (z := 61) (pc := 16) (dec_at lsk_239 (k := 9) rfl) f_12_425 sx_271 rfl rfl ?_
  refine u_c (x := (-2)) (pc := 19) (dec_at lsk_239 (k := 10) rfl) rfl (by decide) ?_
  have g5 := h.1
  have h := h.2
  have g6 := h.1
  have h := h.2
  refine u_iast (pc := 21) (dec_at lsk_239 (k := 11) rfl) sx_315 g5 g6 (fun u7 e8 => ?_)
  have h := h u7 e8
  refine u_ld (v := .ref 271) (pc := 22) (dec_at lsk_239 (k := 12) rfl) rfl ?_
  refine u_gS (o := 45) (p := 316) (pc := 23) (dec_at lsk_239 (k := 13) rfl) f_12_145 sx_271 rfl rfl ?_
  refine u_ld (v := .ref 271) (pc := 26) (dec_at lsk_239 (k := 14) rfl) rfl ?_
  refine u_gI (z := 61) (pc := 27) (dec_at lsk_239 (k := 15) rfl) f_12_425 sx_271 rfl rfl ?_
  refine u_c (x := (-2)) (pc := 30) (dec_at lsk_239 (k := 16) rfl) rfl (by decide) ?_
  have g9 := h.1
  have h := h.2
  have g10 := h.1
  have h := h.2
  refine u_iast (pc := 32) (dec_at lsk_239 (k := 17) rfl) sx_316 g9 g10 (fun u11 e12 => ?_)
  have h := h u11 e12
  refine u_ld (v := .ref 271) (pc := 33) (dec_at lsk_239 (k := 18) rfl) rfl ?_
  refine u_gS (o := 46) (p := 317) (pc := 34) (dec_at lsk_239 (k := 19) rfl) f_12_148 sx_271 rfl rfl ?_
  refine u_ld (v := .ref 271) (pc := 37) (dec_at lsk_239 (k := 20) rfl) rfl ?_
  refine u_gI (z := 61) (pc := 38) (dec_at lsk_239 (k := 21) rfl) f_12_425 sx_271 rfl rfl ?_
  refine u_c (x := (-2)) (pc := 41) (dec_at lsk_239 (k := 22) rfl) rfl (by decide) ?_
  have g13 := h.1
  have h := h.2
  have g14 := h.1
  have h := h.2
  refine u_iast (pc := 43) (dec_at lsk_239 (k := 23) rfl) sx_317 g13 g14 (fun u15 e16 => ?_)
  have h := h u15 e16
  refine u_ld (v := .ref 271) (pc := 44) (dec_at lsk_239 (k := 24) rfl) rfl ?_
  refine u_gS (o := 48) (p := 319) (pc := 45) (dec_at lsk_239 (k := 25) rfl) f_12_154 sx_271 rfl rfl ?_
  refine u_ld (v := .ref 271) (pc := 48) (dec_at lsk_239 (k := 26) rfl) rfl ?_
  refine u_gI (z := 61) (pc := 49) (dec_at lsk_239 (k := 27) rfl) f_12_425 sx_271 rfl rfl ?_
  refine u_ld (v := iV 0) (pc := 52) (dec_at lsk_239 (k := 28) rfl) rfl ?_
  have g17 := h.1
  have h := h.2
  have g18 := h.1
  have h := h.2
  refine u_iast (pc := 53) (dec_at lsk_239 (k := 29) rfl) sx_319 g17 g18 (fun u19 e20 => ?_)
  have h := h u19 e20
  refine u_ld (v := .ref 271) (pc := 54) (dec_at lsk_239 (k := 30) rfl) rfl ?_
  refine u_ld (v := .ref 271) (pc := 55) (dec_at lsk_239 (k := 31) rfl) rfl ?_
  refine u_gI (z := 61) (pc := 56) (dec_at lsk_239 (k := 32) rfl) f_12_425 sx_271 rfl rfl ?_
  refine u_ld (v := iV 1) (pc := 59) (dec_at lsk_239 (k := 33) rfl) rfl ?_
  refine u_iadd (pc := 60) (dec_at lsk_239 (k := 34) rfl) ?_
  refine u_pI (z := 61) (pc := 61) (dec_at lsk_239 (k := 35) rfl) f_12_425 sx_271 rfl rfl rfl rfl (fun u21 e22 => ?_)
  have h := h u21 e22
  exact u_rV (pc := 64) (dec_at lsk_239 (k := 36) rfl) rfl h
/-- method 240 -/
def K_240 (d pc : Nat) (lv : ev_L) (st : List Value) (u : uS) (Q : uS → Prop) : Prop := okU d 12 4 false none prog_14_method_59_code (qV Q) pc lv st u
theorem e_240 {d : Nat} {Q : uS → Prop} {u : uS} {l1 : Int} (h : (rI l1) ∧ (if l1 < 97 then (if l1 = 46 then (cV (d + 2) 241 [.ref 271] u (fun u4 => (rI (u4.1 271 43)) ∧ (if u4.1 271 43 = 0 then (cI (d + 2) 253 [.ref 271, iV 10] u4 (fun r9 u8 => (0 ≤ (u8.1 271 61) - 1) ∧ (((u8.1 271 61) - 1 < 17) ∧ (∀ u12 : uS, u12 = wr u8 317 ((u8.1 271 61) - 1) r9 → (∀ u14 : uS, u14 = wr u12 318 ((u8.1 271 61) - 1) (u12.1 319 ((u8.1 271 61) - 1)) → (∀ u16 : uS, u16 = wr u14 319 ((u8.1 271 61) - 1) 0 → (Q u16))))))) else ((0 ≤ (u4.1 271 61) - 1) ∧ (((u4.1 271 61) - 1 < 17) ∧ (∀ u20 : uS, u20 = wr u4 317 ((u4.1 271 61) - 1) 0 → (∀ u22 : uS, u22 = wr u20 318 ((u4.1 271 61) - 1) (u20.1 319 ((u4.1 271 61) - 1)) → (∀ u24 : uS, u24 = wr u22 319 ((u4.1 271 61) - 1) 0 → (Q u24))))))))) else (if l1 = 48 then (cV (d + 2) 241 [.ref 271] u (fun u27 => (rI (u27.1 271 43)) ∧ (if u27.1 271 43 = 0 then (cI (d + 2) 253 [.ref 271, iV 11] u27 (fun r33 u32 => (0 ≤ (u32.1 271 61) - 1) ∧ (((u32.1 271 61) - 1 < 17) ∧ (∀ u36 : uS, u36 = wr u32 317 ((u32.1 271 61) - 1) r33 → (∀ u38 : uS, u38 = wr u36 318 ((u32.1 271 61) - 1) (u36.1 319 ((u32.1 271 61) - 1)) → (∀ u40 : uS, u40 = wr u38 319 ((u32.1 271 61) - 1) 0 → (Q u40))))))) else ((0 ≤ (u27.1 271 61) - 1) ∧ (((u27.1 271 61) - 1 < 17) ∧ (∀ u44 : uS, u44 = wr u27 317 ((u27.1 271 61) - 1) 0 → (∀ u46 : uS, u46 = wr u44 318 ((u27.1 271 61) - 1) (u44.1 319 ((u27.1 271 61) - 1)) → (∀ u48 : uS, u48 = wr u46 319 ((u27.1 271 61) - 1) 0 → (Q u48))))))))) else (if l1 = 33 then (cV (d + 2) 241 [.ref 271] u (fun u51 => (0 ≤ (u.1 271 61) - 1) ∧ (((u.1 271 61) - 1 < 17) ∧ (∀ u54 : uS, u54 = wr u51 319 ((u.1 271 61) - 1) ((u51.1 319 ((u.1 271 61) - 1)) + 1) → (Q u54))))) else (if l1 = 40 then (cV (d + 2) 241 [.ref 271] u (fun u57 => cV (d + 2) 239 [.ref 271] u57 (fun u58 => Q u58))) else (if l1 = 41 then (cV (d + 2) 255 [.ref 271] u (fun u60 => (0 ≤ (u.1 271 61) - 1) ∧ (((u.1 271 61) - 1 < 17) ∧ (∀ u63 : uS, u63 = wr u60 271 61 ((u60.1 271 61) - 1) → ((0 ≤ (u63.1 271 61) - 1) ∧ (((u63.1 271 61) - 1 < 17) ∧ (∀ u67 : uS, u67 = wr u63 317 ((u63.1 271 61) - 1) (u60.1 314 ((u.1 271 61) - 1)) → (∀ u69 : uS, u69 = wr u67 318 ((u63.1 271 61) - 1) (u67.1 319 ((u63.1 271 61) - 1)) → (∀ u71 : uS, u71 = wr u69 319 ((u63.1 271 61) - 1) 0 → (Q u71)))))))))) else (if l1 = 42 then ((0 ≤ (u.1 271 61) - 1) ∧ (((u.1 271 61) - 1 < 17) ∧ (cI (d + 2) 258 [.ref 271, iV (u.1 317 ((u.1 271 61) - 1)), iV 1] u (fun r78 u77 => ∀ u79 : uS, u79 = wr u77 317 ((u.1 271 61) - 1) r78 → (Q u79))))) else (if l1 = 43 then ((0 ≤ (u.1 271 61) - 1) ∧ (((u.1 271 61) - 1 < 17) ∧ (cI (d + 2) 258 [.ref 271, iV (u.1 317 ((u.1 271 61) - 1)), iV 0] u (fun r86 u85 => ∀ u87 : uS, u87 = wr u85 317 ((u.1 271 61) - 1) r86 → (Q u87))))) else (if l1 = 63 then ((0 ≤ (u.1 271 61) - 1) ∧ (((u.1 271 61) - 1 < 17) ∧ (cI (d + 2) 253 [.ref 271, iV (-1)] u (fun r93 u92 => cI (d + 2) 257 [.ref 271, iV (u.1 317 ((u.1 271 61) - 1)), iV r93, iV 0] u92 (fun r95 u94 => ∀ u96 : uS, u96 = wr u94 317 ((u.1 271 61) - 1) r95 → (Q u96)))))) else (if l1 = 124 then (cV (d + 2) 256 [.ref 271] u (fun u99 => Q u99)) else (cV (d + 2) 255 [.ref 271] u (fun u100 => Q u100))))))))))) else (if 106 < l1 then (if l1 = 46 then (cV (d + 2) 241 [.ref 271] u (fun u103 => (rI (u103.1 271 43)) ∧ (if u103.1 271 43 = 0 then (cI (d + 2) 253 [.ref 271, iV 10] u103 (fun r108 u107 => (0 ≤ (u107.1 271 61) - 1) ∧ (((u107.1 271 61) - 1 < 17) ∧ (∀ u111 : uS, u111 = wr u107 317 ((u107.1 271 61) - 1) r108 → (∀ u113 : uS, u113 = wr u111 318 ((u107.1 271 61) - 1) (u111.1 319 ((u107.1 271 61) - 1)) → (∀ u115 : uS, u115 = wr u113 319 ((u107.1 271 61) - 1) 0 → (Q u115))))))) else ((0 ≤ (u103.1 271 61) - 1) ∧ (((u103.1 271 61) - 1 < 17) ∧ (∀ u119 : uS, u119 = wr u103 317 ((u103.1 271 61) - 1) 0 → (∀ u121 : uS, u121 = wr u119 318 ((u103.1 271 61) - 1) (u119.1 319 ((u103.1 271 61) - 1)) → (∀ u123 : uS, u123 = wr u121 319 ((u103.1 271 61) - 1) 0 → (Q u123))))))))) else (if l1 = 48 then (cV (d + 2) 241 [.ref 271] u (fun u126 => (rI (u126.1 271 43)) ∧ (if u126.1 271 43 = 0 then (cI (d + 2) 253 [.ref 271, iV 11] u126 (fun r132 u131 => (0 ≤ (u131.1 271 61) - 1) ∧ (((u131.1 271 61) - 1 < 17) ∧ (∀ u135 : uS, u135 = wr u131 317 ((u131.1 271 61) - 1) r132 → (∀ u137 : uS, u137 = wr u135 318 ((u131.1 271 61) - 1) (u135.1 319 ((u131.1 271 61) - 1)) → (∀ u139 : uS, u139 = wr u137 319 ((u131.1 271 61) - 1) 0 → (Q u139))))))) else ((0 ≤ (u126.1 271 61) - 1) ∧ (((u126.1 271 61) - 1 < 17) ∧ (∀ u143 : uS, u143 = wr u126 317 ((u126.1 271 61) - 1) 0 → (∀ u145 : uS, u145 = wr u143 318 ((u126.1 271 61) - 1) (u143.1 319 ((u126.1 271 61) - 1)) → (∀ u147 : uS, u147 = wr u145 319 ((u126.1 271 61) - 1) 0 → (Q u147))))))))) else (if l1 = 33 then (cV (d + 2) 241 [.ref 271] u (fun u150 => (0 ≤ (u.1 271 61) - 1) ∧ (((u.1 271 61) - 1 < 17) ∧ (∀ u153 : uS, u153 = wr u150 319 ((u.1 271 61) - 1) ((u150.1 319 ((u.1 271 61) - 1)) + 1) → (Q u153))))) else (if l1 = 40 then (cV (d + 2) 241 [.ref 271] u (fun u156 => cV (d + 2) 239 [.ref 271] u156 (fun u157 => Q u157))) else (if l1 = 41 then (cV (d + 2) 255 [.ref 271] u (fun u159 => (0 ≤ (u.1 271 61) - 1) ∧ (((u.1 271 61) - 1 < 17) ∧ (∀ u162 : uS, u162 = wr u159 271 61 ((u159.1 271 61) - 1) → ((0 ≤ (u162.1 271 61) - 1) ∧ (((u162.1 271 61) - 1 < 17) ∧ (∀ u166 : uS, u166 = wr u162 317 ((u162.1 271 61) - 1) (u159.1 314 ((u.1 271 61) - 1)) → (∀ u168 : uS, u168 = wr u166 318 ((u162.1 271 61) - 1) (u166.1 319 ((u162.1 271 61) - 1)) → (∀ u170 : uS, u170 = wr u168 319 ((u162.1 271 61) - 1) 0 → (Q u170)))))))))) else (if l1 = 42 then ((0 ≤ (u.1 271 61) - 1) ∧ (((u.1 271 61) - 1 < 17) ∧ (cI (d + 2) 258 [.ref 271, iV (u.1 317 ((u.1 271 61) - 1)), iV 1] u (fun r177 u176 => ∀ u178 : uS, u178 = wr u176 317 ((u.1 271 61) - 1) r177 → (Q u178))))) else (if l1 = 43 then ((0 ≤ (u.1 271 61) - 1) ∧ (((u.1 271 61) - 1 < 17) ∧ (cI (d + 2) 258 [.ref 271, iV (u.1 317 ((u.1 271 61) - 1)), iV 0] u (fun r185 u184 => ∀ u186 : uS, u186 = wr u184 317 ((u.1 271 61) - 1) r185 → (Q u186))))) else (if l1 = 63 then ((0 ≤ (u.1 271 61) - 1) ∧ (((u.1 271 61) - 1 < 17) ∧ (cI (d + 2) 253 [.ref 271, iV (-1)] u (fun r192 u191 => cI (d + 2) 257 [.ref 271, iV (u.1 317 ((u.1 271 61) - 1)), iV r192, iV 0] u191 (fun r194 u193 => ∀ u195 : uS, u195 = wr u193 317 ((u.1 271 61) - 1) r194 → (Q u195)))))) else (if l1 = 124 then (cV (d + 2) 256 [.ref 271] u (fun u198 => Q u198)) else (cV (d + 2) 255 [.ref 271] u (fun u199 => Q u199))))))))))) else (cV (d + 2) 241 [.ref 271] u (fun u200 => (rI (u200.1 271 43)) ∧ (if u200.1 271 43 = 0 then (if l1 = 46 then (cI (d + 2) 253 [.ref 271, iV 10] u200 (fun r205 u204 => (0 ≤ (u204.1 271 61) - 1) ∧ (((u204.1 271 61) - 1 < 17) ∧ (∀ u208 : uS, u208 = wr u204 317 ((u204.1 271 61) - 1) r205 → (∀ u210 : uS, u210 = wr u208 318 ((u204.1 271 61) - 1) (u208.1 319 ((u204.1 271 61) - 1)) → (∀ u212 : uS, u212 = wr u210 319 ((u204.1 271 61) - 1) 0 → (Q u212))))))) else (if l1 = 48 then (cI (d + 2) 253 [.ref 271, iV 11] u200 (fun r216 u215 => (0 ≤ (u215.1 271 61) - 1) ∧ (((u215.1 271 61) - 1 < 17) ∧ (∀ u219 : uS, u219 = wr u215 317 ((u215.1 271 61) - 1) r216 → (∀ u221 : uS, u221 = wr u219 318 ((u215.1 271 61) - 1) (u219.1 319 ((u215.1 271 61) - 1)) → (∀ u223 : uS, u223 = wr u221 319 ((u215.1 271 61) - 1) 0 → (Q u223))))))) else (cI (d + 2) 253 [.ref 271, iV (l1 - 97)] u200 (fun r226 u225 => (0 ≤ (u225.1 271 61) - 1) ∧ (((u225.1 271 61) - 1 < 17) ∧ (∀ u229 : uS, u229 = wr u225 317 ((u225.1 271 61) - 1) r226 → (∀ u231 : uS, u231 = wr u229 318 ((u225.1 271 61) - 1) (u229.1 319 ((u225.1 271 61) - 1)) → (∀ u233 : uS, u233 = wr u231 319 ((u225.1 271 61) - 1) 0 → (Q u233))))))))) else ((0 ≤ (u200.1 271 61) - 1) ∧ (((u200.1 271 61) - 1 < 17) ∧ (∀ u237 : uS, u237 = wr u200 317 ((u200.1 271 61) - 1) 0 → (∀ u239 : uS, u239 = wr u237 318 ((u200.1 271 61) - 1) (u237.1 319 ((u200.1 271 61) - 1)) → (∀ u241 : uS, u241 = wr u239 319 ((u200.1 271 61) - 1) 0 → (Q u241)))))))))))) : cV (d + 3) 240 [.ref 271, iV l1] u Q := by
  refine u_of me_240 (Nat.le_of_ble_eq_true rfl) ?_
  refine u_ld (v := .ref 271) (pc := 0) (dec_at lsk_240 (k := 0) rfl) rfl ?_
  refine u_gI (z := 61) (pc := 1) (dec_at lsk_240 (k := 1) rfl) f_12_425 sx_271 rfl rfl ?_
  refine u_ld (v := iV 1) (pc := 4) (dec_at lsk_240 (k := 2) rfl) rfl ?_
  refine u_isub (pc := 5) (dec_at lsk_240 (k := 3) rfl) ?_
  refine u_sto (lv' := [.ref 271, iV l1, iV ((u.1 271 61) - 1), .retAddr 0]) (pc := 6) (dec_at lsk_240 (k := 4) rfl) rfl ?_
  refine u_ld (v := .ref 271) (pc := 7) (dec_at lsk_240 (k := 5) rfl) rfl ?_
  refine u_ld (v := iV l1) (pc := 8) (dec_at lsk_240 (k := 6) rfl) rfl ?_
  refine u_cvI (As := [iV l1]) (rb := 271) (st2 := []) (pc := 9) (dec_at lsk_240 (k := 7) rfl) m_12_419 (Or.inl rfl) rfl (Nat.le_of_ble_eq_true rfl) sx_271 me_237 rfl ?_ (fun _ _ h_ => h_)
  refine u_of me_237 (Nat.le_of_ble_eq_true rfl) ?_
  refine u_ld (v := iV l1) (pc := 0) (dec_at lsk_237 (k := 0) rfl) rfl ?_
  refine u_csI (As := [iV l1]) (st2 := []) (pc := 1) (dec_at lsk_237 (k := 1) rfl) m_12_258 (Or.inl rfl) rfl (Nat.le_of_ble_eq_true rfl) ?_ (fun _ _ h_ => h_)
  refine u_of me_205 (Nat.le_of_ble_eq_true rfl) ?_
  refine u_ld (v := iV l1) (pc := 0) (dec_at lsk_205 (k := 0) rfl) rfl ?_
  refine u_c (x := 97) (pc := 1) (dec_at lsk_205 (k := 1) rfl) rfl (by decide) ?_
  have g1 := h.1
  have h := h.2
  refine u_icT (pc := 3) (tgt := 16) (dec_at lsk_205 (k := 2) rfl) rfl (ci_lt g1 (by decide)) (fun e2 => ?_) (fun e2 => ?_)
  · have h := ifT e2 h
    refine u_ld (v := iV 0) (pc := 16) (dec_at lsk_205 (k := 8) rfl) rfl ?_
    refine u_rZ (pc := 17) (dec_at lsk_205 (k := 9) rfl) rfl (by decide) ?_
    refine u_ifF (pc := 4) (tgt := 19) (dec_at lsk_237 (k := 2) rfl) rfl (c0_ne (by decide)) (fun _ => ?_) (fun e => absurd e (by decide))
    refine u_ld (v := iV l1) (pc := 7) (dec_at lsk_237 (k := 3) rfl) rfl ?_
    refine u_c (x := 46) (pc := 8) (dec_at lsk_237 (k := 4) rfl) rfl (by decide) ?_
    refine u_icT (pc := 10) (tgt := 19) (dec_at lsk_237 (k := 5) rfl) rfl (ci_eq g1 (by decide)) (fun e3 => ?_) (fun e3 => ?_)
    · have h := ifT e3 h
      refine u_ld (v := iV 1) (pc := 19) (dec_at lsk_237 (k := 9) rfl) rfl ?_
      refine u_goto (pc := 20) (tgt := 24) (dec_at lsk_237 (k := 10) rfl) rfl ?_
      refine u_rZ (pc := 24) (dec_at lsk_237 (k := 12) rfl) rfl (by decide) ?_
      refine u_ifT (pc := 12) (tgt := 67) (dec_at lsk_240 (k := 8) rfl) rfl (c0_eq (by decide)) (fun e => absurd e (by decide)) (fun _ => ?_)
      refine u_ld (v := .ref 271) (pc := 15) (dec_at lsk_240 (k := 9) rfl) rfl ?_
      refine u_cvV (As := []) (rb := 271) (st2 := []) (pc := 16) (dec_at lsk_240 (k := 10) rfl) m_12_436 (Or.inl rfl) rfl (Nat.le_of_ble_eq_true rfl) sx_271 me_241 rfl h (fun u4 h => ?_)
      refine u_ld (v := .ref 271) (pc := 19) (dec_at lsk_240 (k := 11) rfl) rfl ?_
      refine u_ld (v := .ref 271) (pc := 20) (dec_at lsk_240 (k := 12) rfl) rfl ?_
      refine u_gZ (z := 43) (pc := 21) (dec_at lsk_240 (k := 13) rfl) f_12_394 sx_271 rfl rfl ?_
      have g5 := h.1
      have h := h.2
      refine u_ifT (pc := 24) (tgt := 31) (dec_at lsk_240 (k := 14) rfl) rfl (c0_eq g5) (fun e6 => ?_) (fun e6 => ?_)
      · have h := ifT e6 h
        refine u_ld (v := .ref 271) (pc := 31) (dec_at lsk_240 (k := 17) rfl) rfl ?_
        refine u_ld (v := iV l1) (pc := 32) (dec_at lsk_240 (k := 18) rfl) rfl ?_
        refine u_c (x := 46) (pc := 33) (dec_at lsk_240 (k := 19) rfl) rfl (by decide) ?_
        refine u_icF (pc := 35) (tgt := 43) (dec_at lsk_240 (k := 20) rfl) rfl (ci_ne g1 (by decide)) (fun _ => ?_) (fun e7 => absurd e3 e7)
        refine u_c (x := 10) (pc := 38) (dec_at lsk_240 (k := 21) rfl) rfl (by decide) ?_
        refine u_goto (pc := 40) (tgt := 58) (dec_at lsk_240 (k := 22) rfl) rfl ?_
        refine u_cvI (As := [iV 10]) (rb := 271) (st2 := [.ref 271]) (pc := 58) (dec_at lsk_240 (k := 31) rfl) m_12_439 (Or.inl rfl) rfl (Nat.le_of_ble_eq_true rfl) sx_271 me_253 rfl h (fun r9 u8 h => ?_)
        refine u_cvV (As := [iV r9]) (rb := 271) (st2 := []) (pc := 61) (dec_at lsk_240 (k := 32) rfl) m_12_448 (Or.inl rfl) rfl (Nat.le_of_ble_eq_true rfl) sx_271 me_254 rfl ?_ (fun _ h_ => h_)
        refine u_of me_254 (Nat.le_of_ble_eq_true rfl) ?_
        refine u_ld (v := .ref 271) (pc := 0) (dec_at lsk_254 (k := 0) rfl) rfl ?_
        refine u_gI (z := 61) (pc := 1) (dec_at lsk_254 (k := 1) rfl) f_12_425 sx_271 rfl rfl ?_
        refine u_ld (v := iV 1) (pc := 4) (dec_at lsk_254 (k := 2) rfl) rfl ?_
        refine u_isub (pc := 5) (dec_at lsk_254 (k := 3) rfl) ?_
        refine u_sto (lv' := [.ref 271, iV r9, iV ((u8.1 271 61) - 1)]) (pc := 6) (dec_at lsk_254 (k := 4) rfl) rfl ?_
        refine u_ld (v := .ref 271) (pc := 7) (dec_at lsk_254 (k := 5) rfl) rfl ?_
        refine u_gS (o := 46) (p := 317) (pc := 8) (dec_at lsk_254 (k := 6) rfl) f_12_148 sx_271 rfl rfl ?_
        refine u_ld (v := iV ((u8.1 271 61) - 1)) (pc := 11) (dec_at lsk_254 (k := 7) rfl) rfl ?_
        refine u_ld (v := iV r9) (pc := 12) (dec_at lsk_254 (k := 8) rfl) rfl ?_
        have g10 := h.1
        have h := h.2
        have g11 := h.1
        have h := h.2
        refine u_iast (pc := 13) (dec_at lsk_254 (k := 9) rfl) sx_317 g10 g11 (fun u12 e13 => ?_)
        have h := h u12 e13
        refine u_ld (v := .ref 271) (pc := 14) (dec_at lsk_254 (k := 10) rfl) rfl ?_
        refine u_gS (o := 47) (p := 318) (pc := 15) (dec_at lsk_254 (k := 11) rfl) f_12_151 sx_271 rfl rfl ?_
        refine u_ld (v := iV ((u8.1 271 61) - 1)) (pc := 18) (dec_at lsk_254 (k := 12) rfl) rfl ?_
        refine u_ld (v := .ref 271) (pc := 19) (dec_at lsk_254 (k := 13) rfl) rfl ?_
        refine u_gS (o := 48) (p := 319) (pc := 20) (dec_at lsk_254 (k := 14) rfl) f_12_154 sx_271 rfl rfl ?_
        refine u_ld (v := iV ((u8.1 271 61) - 1)) (pc := 23) (dec_at lsk_254 (k := 15) rfl) rfl ?_
        refine u_iald (pc := 24) (dec_at lsk_254 (k := 16) rfl) sx_319 g10 g11 ?_
        refine u_iast (pc := 25) (dec_at lsk_254 (k := 17) rfl) sx_318 g10 g11 (fun u14 e15 => ?_)
        have h := h u14 e15
        refine u_ld (v := .ref 271) (pc := 26) (dec_at lsk_254 (k := 18) rfl) rfl ?_
        refine u_gS (o := 48) (p := 319) (pc := 27) (dec_at lsk_254 (k := 19) rfl) f_12_154 sx_271 rfl rfl ?_
        refine u_ld (v := iV ((u8.1 271 61) - 1)) (pc := 30) (dec_at lsk_254 (k := 20) rfl) rfl ?_
        refine u_ld (v := iV 0) (pc := 31) (dec_at lsk_254 (k := 21) rfl) rfl ?_
        refine u_iast (pc := 32) (dec_at lsk_254 (k := 22) rfl) sx_319 g10 g11 (fun u16 e17 => ?_)
        have h := h u16 e17
        refine u_rV (pc := 33) (dec_at lsk_254 (k := 23) rfl) rfl ?_
        refine u_goto (pc := 64) (tgt := 232) (dec_at lsk_240 (k := 33) rfl) rfl ?_
        exact u_rV (pc := 232) (dec_at lsk_240 (k := 125) rfl) rfl h
      · have h := ifF e6 h
        refine u_ld (v := iV 0) (pc := 27) (dec_at lsk_240 (k := 15) rfl) rfl ?_
        refine u_goto (pc := 28) (tgt := 61) (dec_at lsk_240 (k := 16) rfl) rfl ?_
        refine u_cvV (As := [iV 0]) (rb := 271) (st2 := []) (pc := 61) (dec_at lsk_240 (k := 32) rfl) m_12_448 (Or.inl rfl) rfl (Nat.le_of_ble_eq_true rfl) sx_271 me_254 rfl ?_ (fun _ h_ => h_)
        refine u_of me_254 (Nat.le_of_ble_eq_true rfl) ?_
        refine u_ld (v := .ref 271) (pc := 0) (dec_at lsk_254 (k := 0) rfl) rfl ?_
        refine u_gI (z := 61) (pc := 1) (dec_at lsk_254 (k := 1) rfl) f_12_425 sx_271 rfl rfl ?_
        refine u_ld (v := iV 1) (pc := 4) (dec_at lsk_254 (k := 2) rfl) rfl ?_
        refine u_isub (pc := 5) (dec_at lsk_254 (k := 3) rfl) ?_
        refine u_sto (lv' := [.ref 271, iV 0, iV ((u4.1 271 61) - 1)]) (pc := 6) (dec_at lsk_254 (k := 4) rfl) rfl ?_
        refine u_ld (v := .ref 271) (pc := 7) (dec_at lsk_254 (k := 5) rfl) rfl ?_
        refine u_gS (o := 46) (p := 317) (pc := 8) (dec_at lsk_254 (k := 6) rfl) f_12_148 sx_271 rfl rfl ?_
        refine u_ld (v := iV ((u4.1 271 61) - 1)) (pc := 11) (dec_at lsk_254 (k := 7) rfl) rfl ?_
        refine u_ld (v := iV 0) (pc := 12) (dec_at lsk_254 (k := 8) rfl) rfl ?_
        have g18 := h.1
        have h := h.2
        have g19 := h.1
        have h := h.2
        refine u_iast (pc := 13) (dec_at lsk_254 (k := 9) rfl) sx_317 g18 g19 (fun u20 e21 => ?_)
        have h := h u20 e21
        refine u_ld (v := .ref 271) (pc := 14) (dec_at lsk_254 (k := 10) rfl) rfl ?_
        refine u_gS (o := 47) (p := 318) (pc := 15) (dec_at lsk_254 (k := 11) rfl) f_12_151 sx_271 rfl rfl ?_
        refine u_ld (v := iV ((u4.1 271 61) - 1)) (pc := 18) (dec_at lsk_254 (k := 12) rfl) rfl ?_
        refine u_ld (v := .ref 271) (pc := 19) (dec_at lsk_254 (k := 13) rfl) rfl ?_
        refine u_gS (o := 48) (p := 319) (pc := 20) (dec_at lsk_254 (k := 14) rfl) f_12_154 sx_271 rfl rfl ?_
        refine u_ld (v := iV ((u4.1 271 61) - 1)) (pc := 23) (dec_at lsk_254 (k := 15) rfl) rfl ?_
        refine u_iald (pc := 24) (dec_at lsk_254 (k := 16) rfl) sx_319 g18 g19 ?_
        refine u_iast (pc := 25) (dec_at lsk_254 (k := 17) rfl) sx_318 g18 g19 (fun u22 e23 => ?_)
        have h := h u22 e23
        refine u_ld (v := .ref 271) (pc := 26) (dec_at lsk_254 (k := 18) rfl) rfl ?_
        refine u_gS (o := 48) (p := 319) (pc := 27) (dec_at lsk_254 (k := 19) rfl) f_12_154 sx_271 rfl rfl ?_
        refine u_ld (v := iV ((u4.1 271 61) - 1)) (pc := 30) (dec_at lsk_254 (k := 20) rfl) rfl ?_
        refine u_ld (v := iV 0) (pc := 31) (dec_at lsk_254 (k := 21) rfl) rfl ?_
        refine u_iast (pc := 32) (dec_at lsk_254 (k := 22) rfl) sx_319 g18 g19 (fun u24 e25 => ?_)
        have h := h u24 e25
        refine u_rV (pc := 33) (dec_at lsk_254 (k := 23) rfl) rfl ?_
        refine u_goto (pc := 64) (tgt := 232) (dec_at lsk_240 (k := 33) rfl) rfl ?_
        exact u_rV (pc := 232) (dec_at lsk_240 (k := 125) rfl) rfl h
    · have h := ifF e3 h
      refine u_ld (v := iV l1) (pc := 13) (dec_at lsk_237 (k := 6) rfl) rfl ?_
      refine u_c (x := 48) (pc := 14) (dec_at lsk_237 (k := 7) rfl) rfl (by decide) ?_
      refine u_icF (pc := 16) (tgt := 23) (dec_at lsk_237 (k := 8) rfl) rfl (ci_ne g1 (by decide)) (fun e26 => ?_) (fun e26 => ?_)
      · have h := ifT e26 h
        refine u_ld (v := iV 1) (pc := 19) (dec_at lsk_237 (k := 9) rfl) rfl ?_
        refine u_goto (pc := 20) (tgt := 24) (dec_at lsk_237 (k := 10) rfl) rfl ?_
        refine u_rZ (pc := 24) (dec_at lsk_237 (k := 12) rfl) rfl (by decide) ?_
        refine u_ifT (pc := 12) (tgt := 67) (dec_at lsk_240 (k := 8) rfl) rfl (c0_eq (by decide)) (fun e => absurd e (by decide)) (fun _ => ?_)
        refine u_ld (v := .ref 271) (pc := 15) (dec_at lsk_240 (k := 9) rfl) rfl ?_
        refine u_cvV (As := []) (rb := 271) (st2 := []) (pc := 16) (dec_at lsk_240 (k := 10) rfl) m_12_436 (Or.inl rfl) rfl (Nat.le_of_ble_eq_true rfl) sx_271 me_241 rfl h (fun u27 h => ?_)
        refine u_ld (v := .ref 271) (pc := 19) (dec_at lsk_240 (k := 11) rfl) rfl ?_
        refine u_ld (v := .ref 271) (pc := 20) (dec_at lsk_240 (k := 12) rfl) rfl ?_
        refine u_gZ (z := 43) (pc := 21) (dec_at lsk_240 (k := 13) rfl) f_12_394 sx_271 rfl rfl ?_
        have g28 := h.1
        have h := h.2
        refine u_ifT (pc := 24) (tgt := 31) (dec_at lsk_240 (k := 14) rfl) rfl (c0_eq g28) (fun e29 => ?_) (fun e29 => ?_)
        · have h := ifT e29 h
          refine u_ld (v := .ref 271) (pc := 31) (dec_at lsk_240 (k := 17) rfl) rfl ?_
          refine u_ld (v := iV l1) (pc := 32) (dec_at lsk_240 (k := 18) rfl) rfl ?_
          refine u_c (x := 46) (pc := 33) (dec_at lsk_240 (k := 19) rfl) rfl (by decide) ?_
          refine u_icF (pc := 35) (tgt := 43) (dec_at lsk_240 (k := 20) rfl) rfl (ci_ne g1 (by decide)) (fun e30 => absurd e30 e3) (fun _ => ?_)
          refine u_ld (v := iV l1) (pc := 43) (dec_at lsk_240 (k := 23) rfl) rfl ?_
          refine u_c (x := 48) (pc := 44) (dec_at lsk_240 (k := 24) rfl) rfl (by decide) ?_
          refine u_icF (pc := 46) (tgt := 54) (dec_at lsk_240 (k := 25) rfl) rfl (ci_ne g1 (by decide)) (fun _ => ?_) (fun e31 => absurd e26 e31)
          refine u_c (x := 11) (pc := 49) (dec_at lsk_240 (k := 26) rfl) rfl (by decide) ?_
          refine u_goto (pc := 51) (tgt := 58) (dec_at lsk_240 (k := 27) rfl) rfl ?_
          refine u_cvI (As := [iV 11]) (rb := 271) (st2 := [.ref 271]) (pc := 58) (dec_at lsk_240 (k := 31) rfl) m_12_439 (Or.inl rfl) rfl (Nat.le_of_ble_eq_true rfl) sx_271 me_253 rfl h (fun r33 u32 h => ?_)
          refine u_cvV (As := [iV r33]) (rb := 271) (st2 := []) (pc := 61) (dec_at lsk_240 (k := 32) rfl) m_12_448 (Or.inl rfl) rfl (Nat.le_of_ble_eq_true rfl) sx_271 me_254 rfl ?_ (fun _ h_ => h_)
          refine u_of me_254 (Nat.le_of_ble_eq_true rfl) ?_
          refine u_ld (v := .ref 271) (pc := 0) (dec_at lsk_254 (k := 0) rfl) rfl ?_
          refine u_gI (z := 61) (pc := 1) (dec_at lsk_254 (k := 1) rfl) f_12_425 sx_271 rfl rfl ?_
          refine u_ld (v := iV 1) (pc := 4) (dec_at lsk_254 (k := 2) rfl) rfl ?_
          refine u_isub (pc := 5) (dec_at lsk_254 (k := 3) rfl) ?_
          refine u_sto (lv' := [.ref 271, iV r33, iV ((u32.1 271 61) - 1)]) (pc := 6) (dec_at lsk_254 (k := 4) rfl) rfl ?_
          refine u_ld (v := .ref 271) (pc := 7) (dec_at lsk_254 (k := 5) rfl) rfl ?_
          refine u_gS (o := 46) (p := 317) (pc := 8) (dec_at lsk_254 (k := 6) rfl) f_12_148 sx_271 rfl rfl ?_
          refine u_ld (v := iV ((u32.1 271 61) - 1)) (pc := 11) (dec_at lsk_254 (k := 7) rfl) rfl ?_
          refine u_ld (v := iV r33) (pc := 12) (dec_at lsk_254 (k := 8) rfl) rfl ?_
          have g34 := h.1
          have h := h.2
          have g35 := h.1
          have h := h.2
          refine u_iast (pc := 13) (dec_at lsk_254 (k := 9) rfl) sx_317 g34 g35 (fun u36 e37 => ?_)
          have h := h u36 e37
          refine u_ld (v := .ref 271) (pc := 14) (dec_at lsk_254 (k := 10) rfl) rfl ?_
          refine u_gS (o := 47) (p := 318) (pc := 15) (dec_at lsk_254 (k := 11) rfl) f_12_151 sx_271 rfl rfl ?_
          refine u_ld (v := iV ((u32.1 271 61) - 1)) (pc := 18) (dec_at lsk_254 (k := 12) rfl) rfl ?_
          refine u_ld (v := .ref 271) (pc := 19) (dec_at lsk_254 (k := 13) rfl) rfl ?_
          refine u_gS (o := 48) (p := 319) (pc := 20) (dec_at lsk_254 (k := 14) rfl) f_12_154 sx_271 rfl rfl ?_
          refine u_ld (v := iV ((u32.1 271 61) - 1)) (pc := 23) (dec_at lsk_254 (k := 15) rfl) rfl ?_
          refine u_iald (pc := 24) (dec_at lsk_254 (k := 16) rfl) sx_319 g34 g35 ?_
          refine u_iast (pc := 25) (dec_at lsk_254 (k := 17) rfl) sx_318 g34 g35 (fun u38 e39 => ?_)
          have h := h u38 e39
          refine u_ld (v := .ref 271) (pc := 26) (dec_at lsk_254 (k := 18) rfl) rfl ?_
          refine u_gS (o := 48) (p := 319) (pc := 27) (dec_at lsk_254 (k := 19) rfl) f_12_154 sx_271 rfl rfl ?_
          refine u_ld (v := iV ((u32.1 271 61) - 1)) (pc := 30) (dec_at lsk_254 (k := 20) rfl) rfl ?_
          refine u_ld (v := iV 0) (pc := 31) (dec_at lsk_254 (k := 21) rfl) rfl ?_
          refine u_iast (pc := 32) (dec_at lsk_254 (k := 22) rfl) sx_319 g34 g35 (fun u40 e41 => ?_)
          have h := h u40 e41
          refine u_rV (pc := 33) (dec_at lsk_254 (k := 23) rfl) rfl ?_
          refine u_goto (pc := 64) (tgt := 232) (dec_at lsk_240 (k := 33) rfl) rfl ?_
          exact u_rV (pc := 232) (dec_at lsk_240 (k := 125) rfl) rfl h
        · have h := ifF e29 h
          refine u_ld (v := iV 0) (pc := 27) (dec_at lsk_240 (k := 15) rfl) rfl ?_
          refine u_goto (pc := 28) (tgt := 61) (dec_at lsk_240 (k := 16) rfl) rfl ?_
          refine u_cvV (As := [iV 0]) (rb := 271) (st2 := []) (pc := 61) (dec_at lsk_240 (k := 32) rfl) m_12_448 (Or.inl rfl) rfl (Nat.le_of_ble_eq_true rfl) sx_271 me_254 rfl ?_ (fun _ h_ => h_)
          refine u_of me_254 (Nat.le_of_ble_eq_true rfl) ?_
          refine u_ld (v := .ref 271) (pc := 0) (dec_at lsk_254 (k := 0) rfl) rfl ?_
          refine u_gI (z := 61) (pc := 1) (dec_at lsk_254 (k := 1) rfl) f_12_425 sx_271 rfl rfl ?_
          refine u_ld (v := iV 1) (pc := 4) (dec_at lsk_254 (k := 2) rfl) rfl ?_
          refine u_isub (pc := 5) (dec_at lsk_254 (k := 3) rfl) ?_
          refine u_sto (lv' := [.ref 271, iV 0, iV ((u27.1 271 61) - 1)]) (pc := 6) (dec_at lsk_254 (k := 4) rfl) rfl ?_
          refine u_ld (v := .ref 271) (pc := 7) (dec_at lsk_254 (k := 5) rfl) rfl ?_
          refine u_gS (o := 46) (p := 317) (pc := 8) (dec_at lsk_254 (k := 6) rfl) f_12_148 sx_271 rfl rfl ?_
          refine u_ld (v := iV ((u27.1 271 61) - 1)) (pc := 11) (dec_at lsk_254 (k := 7) rfl) rfl ?_
          refine u_ld (v := iV 0) (pc := 12) (dec_at lsk_254 (k := 8) rfl) rfl ?_
          have g42 := h.1
          have h := h.2
          have g43 := h.1
          have h := h.2
          refine u_iast (pc := 13) (dec_at lsk_254 (k := 9) rfl) sx_317 g42 g43 (fun u44 e45 => ?_)
          have h := h u44 e45
          refine u_ld (v := .ref 271) (pc := 14) (dec_at lsk_254 (k := 10) rfl) rfl ?_
          refine u_gS (o := 47) (p := 318) (pc := 15) (dec_at lsk_254 (k := 11) rfl) f_12_151 sx_271 rfl rfl ?_
          refine u_ld (v := iV ((u27.1 271 61) - 1)) (pc := 18) (dec_at lsk_254 (k := 12) rfl) rfl ?_
          refine u_ld (v := .ref 271) (pc := 19) (dec_at lsk_254 (k := 13) rfl) rfl ?_
          refine u_gS (o := 48) (p := 319) (pc := 20) (dec_at lsk_254 (k := 14) rfl) f_12_154 sx_271 rfl rfl ?_
          refine u_ld (v := iV ((u27.1 271 61) - 1)) (pc := 23) (dec_at lsk_254 (k := 15) rfl) rfl ?_
          refine u_iald (pc := 24) (dec_at lsk_254 (k := 16) rfl) sx_319 g42 g43 ?_
          refine u_iast (pc := 25) (dec_at lsk_254 (k := 17) rfl) sx_318 g42 g43 (fun u46 e47 => ?_)
          have h := h u46 e47
          refine u_ld (v := .ref 271) (pc := 26) (dec_at lsk_254 (k := 18) rfl) rfl ?_
          refine u_gS (o := 48) (p := 319) (pc := 27) (dec_at lsk_254 (k := 19) rfl) f_12_154 sx_271 rfl rfl ?_
          refine u_ld (v := iV ((u27.1 271 61) - 1)) (pc := 30) (dec_at lsk_254 (k := 20) rfl) rfl ?_
          refine u_ld (v := iV 0) (pc := 31) (dec_at lsk_254 (k := 21) rfl) rfl ?_
          refine u_iast (pc := 32) (dec_at lsk_254 (k := 22) rfl) sx_319 g42 g43 (fun u48 e49 => ?_)
          have h := h u48 e49
          refine u_rV (pc := 33) (dec_at lsk_254 (k := 23) rfl) rfl ?_
          refine u_goto (pc := 64) (tgt := 232) (dec_at lsk_240 (k := 33) rfl) rfl ?_
          exact u_rV (pc := 232) (dec_at lsk_240 (k := 125) rfl) rfl h
      · have h := ifF e26 h
        refine u_ld (v := iV 0) (pc := 23) (dec_at lsk_237 (k := 11) rfl) rfl ?_
        refine u_rZ (pc := 24) (dec_at lsk_237 (k := 12) rfl) rfl (by decide) ?_
        refine u_ifT (pc := 12) (tgt := 67) (dec_at lsk_240 (k := 8) rfl) rfl (c0_eq (by decide)) (fun _ => ?_) (fun e => absurd e (by decide))
        refine u_ld (v := iV l1) (pc := 67) (dec_at lsk_240 (k := 34) rfl) rfl ?_
        refine u_c (x := 33) (pc := 68) (dec_at lsk_240 (k := 35) rfl) rfl (by decide) ?_
        refine u_icF (pc := 70) (tgt := 90) (dec_at lsk_240 (k := 36) rfl) rfl (ci_ne g1 (by decide)) (fun e50 => ?_) (fun e50 => ?_)
        · have h := ifT e50 h
          refine u_ld (v := .ref 271) (pc := 73) (dec_at lsk_240 (k := 37) rfl) rfl ?_
          refine u_cvV (As := []) (rb := 271) (st2 := []) (pc := 74) (dec_at lsk_240 (k := 38) rfl) m_12_436 (Or.inl rfl) rfl (Nat.le_of_ble_eq_true rfl) sx_271 me_241 rfl h (fun u51 h => ?_)
          refine u_ld (v := .ref 271) (pc := 77) (dec_at lsk_240 (k := 39) rfl) rfl ?_
          refine u_gS (o := 48) (p := 319) (pc := 78) (dec_at lsk_240 (k := 40) rfl) f_12_154 sx_271 rfl rfl ?_
          refine u_ld (v := iV ((u.1 271 61) - 1)) (pc := 81) (dec_at lsk_240 (k := 41) rfl) rfl ?_
          refine u_st (st' := [iV ((u.1 271 61) - 1), .ref 319, iV ((u.1 271 61) - 1), .ref 319]) (pc := 82) (dec_at lsk_240 (k := 42) rfl) rfl ?_
          have g52 := h.1
          have h := h.2
          have g53 := h.1
          have h := h.2
          refine u_iald (pc := 83) (dec_at lsk_240 (k := 43) rfl) sx_319 g52 g53 ?_
          refine u_ld (v := iV 1) (pc := 84) (dec_at lsk_240 (k := 44) rfl) rfl ?_
          refine u_iadd (pc := 85) (dec_at lsk_240 (k := 45) rfl) ?_
          refine u_iast (pc := 86) (dec_at lsk_240 (k := 46) rfl) sx_319 g52 g53 (fun u54 e55 => ?_)
          have h := h u54 e55
          refine u_goto (pc := 87) (tgt := 232) (dec_at lsk_240 (k := 47) rfl) rfl ?_
          exact u_rV (pc := 232) (dec_at lsk_240 (k := 125) rfl) rfl h
        · have h := ifF e50 h
          refine u_ld (v := iV l1) (pc := 90) (dec_at lsk_240 (k := 48) rfl) rfl ?_
          refine u_c (x := 40) (pc := 91) (dec_at lsk_240 (k := 49) rfl) rfl (by decide) ?_
          refine u_icF (pc := 93) (tgt := 107) (dec_at lsk_240 (k := 50) rfl) rfl (ci_ne g1 (by decide)) (fun e56 => ?_) (fun e56 => ?_)
          · have h := ifT e56 h
            refine u_ld (v := .ref 271) (pc := 96) (dec_at lsk_240 (k := 51) rfl) rfl ?_
            refine u_cvV (As := []) (rb := 271) (st2 := []) (pc := 97) (dec_at lsk_240 (k := 52) rfl) m_12_436 (Or.inl rfl) rfl (Nat.le_of_ble_eq_true rfl) sx_271 me_241 rfl h (fun u57 h => ?_)
            refine u_ld (v := .ref 271) (pc := 100) (dec_at lsk_240 (k := 53) rfl) rfl ?_
            refine u_cvV (As := []) (rb := 271) (st2 := []) (pc := 101) (dec_at lsk_240 (k := 54) rfl) m_12_451 (Or.inl rfl) rfl (Nat.le_of_ble_eq_true rfl) sx_271 me_239 rfl h (fun u58 h => ?_)
            refine u_goto (pc := 104) (tgt := 232) (dec_at lsk_240 (k := 55) rfl) rfl ?_
            exact u_rV (pc := 232) (dec_at lsk_240 (k := 125) rfl) rfl h
          · have h := ifF e56 h
            refine u_ld (v := iV l1) (pc := 107) (dec_at lsk_240 (k := 56) rfl) rfl ?_
            refine u_c (x := 41) (pc := 108) (dec_at lsk_240 (k := 57) rfl) rfl (by decide) ?_
            refine u_icF (pc := 110) (tgt := 142) (dec_at lsk_240 (k := 58) rfl) rfl (ci_ne g1 (by decide)) (fun e59 => ?_) (fun e59 => ?_)
            · have h := ifT e59 h
              refine u_ld (v := .ref 271) (pc := 113) (dec_at lsk_240 (k := 59) rfl) rfl ?_
              refine u_cvV (As := []) (rb := 271) (st2 := []) (pc := 114) (dec_at lsk_240 (k := 60) rfl) m_12_454 (Or.inl rfl) rfl (Nat.le_of_ble_eq_true rfl) sx_271 me_255 rfl h (fun u60 h => ?_)
              refine u_ld (v := .ref 271) (pc := 117) (dec_at lsk_240 (k := 61) rfl) rfl ?_
              refine u_gS (o := 43) (p := 314) (pc := 118) (dec_at lsk_240 (k := 62) rfl) f_12_139 sx_271 rfl rfl ?_
              refine u_ld (v := iV ((u.1 271 61) - 1)) (pc := 121) (dec_at lsk_240 (k := 63) rfl) rfl ?_
              have g61 := h.1
              have h := h.2
              have g62 := h.1
              have h := h.2
              refine u_iald (pc := 122) (dec_at lsk_240 (k := 64) rfl) sx_314 g61 g62 ?_
              refine u_sto (lv' := [.ref 271, iV l1, iV ((u.1 271 61) - 1), iV (u60.1 314 ((u.1 271 61) - 1))]) (pc := 123) (dec_at lsk_240 (k := 65) rfl) rfl ?_
              refine u_ld (v := .ref 271) (pc := 124) (dec_at lsk_240 (k := 66) rfl) rfl ?_
              refine u_ld (v := .ref 271) (pc := 125) (dec_at lsk_240 (k := 67) rfl) rfl ?_
              refine u_gI (z := 61) (pc := 126) (dec_at lsk_240 (k := 68) rfl) f_12_425 sx_271 rfl rfl ?_
              refine u_ld (v := iV 1) (pc := 129) (dec_at lsk_240 (k := 69) rfl) rfl ?_
              refine u_isub (pc := 130) (dec_at lsk_240 (k := 70) rfl) ?_
              refine u_pI (z := 61) (pc := 131) (dec_at lsk_240 (k := 71) rfl) f_12_425 sx_271 rfl rfl rfl rfl (fun u63 e64 => ?_)
              have h := h u63 e64
              refine u_ld (v := .ref 271) (pc := 134) (dec_at lsk_240 (k := 72) rfl) rfl ?_
              refine u_ld (v := iV (u60.1 314 ((u.1 271 61) - 1))) (pc := 135) (dec_at lsk_240 (k := 73) rfl) rfl ?_
              refine u_cvV (As := [iV (u60.1 314 ((u.1 271 61) - 1))]) (rb := 271) (st2 := []) (pc := 136) (dec_at lsk_240 (k := 74) rfl) m_12_448 (Or.inl rfl) rfl (Nat.le_of_ble_eq_true rfl) sx_271 me_254 rfl ?_ (fun _ h_ => h_)
              refine u_of me_254 (Nat.le_of_ble_eq_true rfl) ?_
              refine u_ld (v := .ref 271) (pc := 0) (dec_at lsk_254 (k := 0) rfl) rfl ?_
              refine u_gI (z := 61) (pc := 1) (dec_at lsk_254 (k := 1) rfl) f_12_425 sx_271 rfl rfl ?_
              refine u_ld (v := iV 1) (pc := 4) (dec_at lsk_254 (k := 2) rfl) rfl ?_
              refine u_isub (pc := 5) (dec_at lsk_254 (k := 3) rfl) ?_
              refine u_sto (lv' := [.ref 271, iV (u60.1 314 ((u.1 271 61) - 1)), iV ((u63.1 271 61) - 1)]) (pc := 6) (dec_at lsk_254 (k := 4) rfl) rfl ?_
              refine u_ld (v := .ref 271) (pc := 7) (dec_at lsk_254 (k := 5) rfl) rfl ?_
              refine u_gS (o := 46) (p := 317) (pc := 8) (dec_at lsk_254 (k := 6) rfl) f_12_148 sx_271 rfl rfl ?_
              refine u_ld (v := iV ((u63.1 271 61) - 1)) (pc := 11) (dec_at lsk_254 (k := 7) rfl) rfl ?_
              refine u_ld (v := iV (u60.1 314 ((u.1 271 61) - 1))) (pc := 12) (dec_at lsk_254 (k := 8) rfl) rfl ?_
              have g65 := h.1
              have h := h.2
              have g66 := h.1
              have h := h.2
              refine u_iast (pc := 13) (dec_at lsk_254 (k := 9) rfl) sx_317 g65 g66 (fun u67 e68 => ?_)
              have h := h u67 e68
              refine u_ld (v := .ref 271) (pc := 14) (dec_at lsk_254 (k := 10) rfl) rfl ?_
              refine u_gS (o := 47) (p := 318) (pc := 15) (dec_at lsk_254 (k := 11) rfl) f_12_151 sx_271 rfl rfl ?_
              refine u_ld (v := iV ((u63.1 271 61) - 1)) (pc := 18) (dec_at lsk_254 (k := 12) rfl) rfl ?_
              refine u_ld (v := .ref 271) (pc := 19) (dec_at lsk_254 (k := 13) rfl) rfl ?_
              refine u_gS (o := 48) (p := 319) (pc := 20) (dec_at lsk_254 (k := 14) rfl) f_12_154 sx_271 rfl rfl ?_
              refine u_ld (v := iV ((u63.1 271 61) - 1)) (pc := 23) (dec_at lsk_254 (k := 15) rfl) rfl ?_
              refine u_iald (pc := 24) (dec_at lsk_254 (k := 16) rfl) sx_319 g65 g66 ?_
              refine u_iast (pc := 25) (dec_at lsk_254 (k := 17) rfl) sx_318 g65 g66 (fun u69 e70 => ?_)
              have h := h u69 e70
              refine u_ld (v := .ref 271) (pc := 26) (dec_at lsk_254 (k := 18) rfl) rfl ?_
              refine u_gS (o := 48) (p := 319) (pc := 27) (dec_at lsk_254 (k := 19) rfl) f_12_154 sx_271 rfl rfl ?_
              refine u_ld (v := iV ((u63.1 271 61) - 1)) (pc := 30) (dec_at lsk_254 (k := 20) rfl) rfl ?_
              refine u_ld (v := iV 0) (pc := 31) (dec_at lsk_254 (k := 21) rfl) rfl ?_
              refine u_iast (pc := 32) (dec_at lsk_254 (k := 22) rfl) sx_319 g65 g66 (fun u71 e72 => ?_)
              have h := h u71 e72
              refine u_rV (pc := 33) (dec_at lsk_254 (k := 23) rfl) rfl ?_
              refine u_goto (pc := 139) (tgt := 232) (dec_at lsk_240 (k := 75) rfl) rfl ?_
              exact u_rV (pc := 232) (dec_at lsk_240 (k := 125) rfl) rfl h
            · have h := ifF e59 h
              refine u_ld (v := iV l1) (pc := 142) (dec_at lsk_240 (k := 76) rfl) rfl ?_
              refine u_c (x := 42) (pc := 143) (dec_at lsk_240 (k := 77) rfl) rfl (by decide) ?_
              refine u_icT (pc := 145) (tgt := 154) (dec_at lsk_240 (k := 78) rfl) rfl (ci_eq g1 (by decide)) (fun e73 => ?_) (fun e73 => ?_)
              · have h := ifT e73 h
                refine u_ld (v := .ref 271) (pc := 154) (dec_at lsk_240 (k := 82) rfl) rfl ?_
                refine u_gS (o := 46) (p := 317) (pc := 155) (dec_at lsk_240 (k := 83) rfl) f_12_148 sx_271 rfl rfl ?_
                refine u_ld (v := iV ((u.1 271 61) - 1)) (pc := 158) (dec_at lsk_240 (k := 84) rfl) rfl ?_
                refine u_ld (v := .ref 271) (pc := 159) (dec_at lsk_240 (k := 85) rfl) rfl ?_
                refine u_ld (v := .ref 271) (pc := 160) (dec_at lsk_240 (k := 86) rfl) rfl ?_
                refine u_gS (o := 46) (p := 317) (pc := 161) (dec_at lsk_240 (k := 87) rfl) f_12_148 sx_271 rfl rfl ?_
                refine u_ld (v := iV ((u.1 271 61) - 1)) (pc := 164) (dec_at lsk_240 (k := 88) rfl) rfl ?_
                have g74 := h.1
                have h := h.2
                have g75 := h.1
                have h := h.2
                refine u_iald (pc := 165) (dec_at lsk_240 (k := 89) rfl) sx_317 g74 g75 ?_
                refine u_ld (v := iV l1) (pc := 166) (dec_at lsk_240 (k := 90) rfl) rfl ?_
                refine u_c (x := 42) (pc := 167) (dec_at lsk_240 (k := 91) rfl) rfl (by decide) ?_
                refine u_icF (pc := 169) (tgt := 176) (dec_at lsk_240 (k := 92) rfl) rfl (ci_ne g1 (by decide)) (fun _ => ?_) (fun e76 => absurd e73 e76)
                refine u_ld (v := iV 1) (pc := 172) (dec_at lsk_240 (k := 93) rfl) rfl ?_
                refine u_goto (pc := 173) (tgt := 177) (dec_at lsk_240 (k := 94) rfl) rfl ?_
                refine u_cvI (As := [iV (u.1 317 ((u.1 271 61) - 1)), iV 1]) (rb := 271) (st2 := [iV ((u.1 271 61) - 1), .ref 317]) (pc := 177) (dec_at lsk_240 (k := 96) rfl) m_12_457 (Or.inl rfl) rfl (Nat.le_of_ble_eq_true rfl) sx_271 me_258 rfl h (fun r78 u77 h => ?_)
                refine u_iast (pc := 180) (dec_at lsk_240 (k := 97) rfl) sx_317 g74 g75 (fun u79 e80 => ?_)
                have h := h u79 e80
                refine u_goto (pc := 181) (tgt := 232) (dec_at lsk_240 (k := 98) rfl) rfl ?_
                exact u_rV (pc := 232) (dec_at lsk_240 (k := 125) rfl) rfl h
              · have h := ifF e73 h
                refine u_ld (v := iV l1) (pc := 148) (dec_at lsk_240 (k := 79) rfl) rfl ?_
                refine u_c (x := 43) (pc := 149) (dec_at lsk_240 (k := 80) rfl) rfl (by decide) ?_
                refine u_icF (pc := 151) (tgt := 184) (dec_at lsk_240 (k := 81) rfl) rfl (ci_ne g1 (by decide)) (fun e81 => ?_) (fun e81 => ?_)
                · have h := ifT e81 h
                  refine u_ld (v := .ref 271) (pc := 154) (dec_at lsk_240 (k := 82) rfl) rfl ?_
                  refine u_gS (o := 46) (p := 317) (pc := 155) (dec_at lsk_240 (k := 83) rfl) f_12_148 sx_271 rfl rfl ?_
                  refine u_ld (v := iV ((u.1 271 61) - 1)) (pc := 158) (dec_at lsk_240 (k := 84) rfl) rfl ?_
                  refine u_ld (v := .ref 271) (pc := 159) (dec_at lsk_240 (k := 85) rfl) rfl ?_
                  refine u_ld (v := .ref 271) (pc := 160) (dec_at lsk_240 (k := 86) rfl) rfl ?_
                  refine u_gS (o := 46) (p := 317) (pc := 161) (dec_at lsk_240 (k := 87) rfl) f_12_148 sx_271 rfl rfl ?_
                  refine u_ld (v := iV ((u.1 271 61) - 1)) (pc := 164) (dec_at lsk_240 (k := 88) rfl) rfl ?_
                  have g82 := h.1
                  have h := h.2
                  have g83 := h.1
                  have h := h.2
                  refine u_iald (pc := 165) (dec_at lsk_240 (k := 89) rfl) sx_317 g82 g83 ?_
                  refine u_ld (v := iV l1) (pc := 166) (dec_at lsk_240 (k := 90) rfl) rfl ?_
                  refine u_c (x := 42) (pc := 167) (dec_at lsk_240 (k := 91) rfl) rfl (by decide) ?_
                  refine u_icF (pc := 169) (tgt := 176) (dec_at lsk_240 (k := 92) rfl) rfl (ci_ne g1 (by decide)) (fun e84 => absurd e84 e73) (fun _ => ?_)
                  refine u_ld (v := iV 0) (pc := 176) (dec_at lsk_240 (k := 95) rfl) rfl ?_
                  refine u_cvI (As := [iV (u.1 317 ((u.1 271 61) - 1)), iV 0]) (rb := 271) (st2 := [iV ((u.1 271 61) - 1), .ref 317]) (pc := 177) (dec_at lsk_240 (k := 96) rfl) m_12_457 (Or.inl rfl) rfl (Nat.le_of_ble_eq_true rfl) sx_271 me_258 rfl h (fun r86 u85 h => ?_)
                  refine u_iast (pc := 180) (dec_at lsk_240 (k := 97) rfl) sx_317 g82 g83 (fun u87 e88 => ?_)
                  have h := h u87 e88
                  refine u_goto (pc := 181) (tgt := 232) (dec_at lsk_240 (k := 98) rfl) rfl ?_
                  exact u_rV (pc := 232) (dec_at lsk_240 (k := 125) rfl) rfl h
                · have h := ifF e81 h
                  refine u_ld (v := iV l1) (pc := 184) (dec_at lsk_240 (k := 99) rfl) rfl ?_
                  refine u_c (x := 63) (pc := 185) (dec_at lsk_240 (k := 100) rfl) rfl (by decide) ?_
                  refine u_icF (pc := 187) (tgt := 215) (dec_at lsk_240 (k := 101) rfl) rfl (ci_ne g1 (by decide)) (fun e89 => ?_) (fun e89 => ?_)
                  · have h := ifT e89 h
                    refine u_ld (v := .ref 271) (pc := 190) (dec_at lsk_240 (k := 102) rfl) rfl ?_
                    refine u_gS (o := 46) (p := 317) (pc := 191) (dec_at lsk_240 (k := 103) rfl) f_12_148 sx_271 rfl rfl ?_
                    refine u_ld (v := iV ((u.1 271 61) - 1)) (pc := 194) (dec_at lsk_240 (k := 104) rfl) rfl ?_
                    refine u_ld (v := .ref 271) (pc := 195) (dec_at lsk_240 (k := 105) rfl) rfl ?_
                    refine u_ld (v := .ref 271) (pc := 196) (dec_at lsk_240 (k := 106) rfl) rfl ?_
                    refine u_gS (o := 46) (p := 317) (pc := 197) (dec_at lsk_240 (k := 107) rfl) f_12_148 sx_271 rfl rfl ?_
                    refine u_ld (v := iV ((u.1 271 61) - 1)) (pc := 200) (dec_at lsk_240 (k := 108) rfl) rfl ?_
                    have g90 := h.1
                    have h := h.2
                    have g91 := h.1
                    have h := h.2
                    refine u_iald (pc := 201) (dec_at lsk_240 (k := 109) rfl) sx_317 g90 g91 ?_
                    refine u_ld (v := .ref 271) (pc := 202) (dec_at lsk_240 (k := 110) rfl) rfl ?_
                    refine u_ld (v := iV (-1)) (pc := 203) (dec_at lsk_240 (k := 111) rfl) rfl ?_
                    refine u_cvI (As := [iV (-1)]) (rb := 271) (st2 := [iV (u.1 317 ((u.1 271 61) - 1)), .ref 271, iV ((u.1 271 61) - 1), .ref 317]) (pc := 204) (dec_at lsk_240 (k := 112) rfl) m_12_439 (Or.inl rfl) rfl (Nat.le_of_ble_eq_true rfl) sx_271 me_253 rfl h (fun r93 u92 h => ?_)
                    refine u_ld (v := iV 0) (pc := 207) (dec_at lsk_240 (k := 113) rfl) rfl ?_
                    refine u_cvI (As := [iV (u.1 317 ((u.1 271 61) - 1)), iV r93, iV 0]) (rb := 271) (st2 := [iV ((u.1 271 61) - 1), .ref 317]) (pc := 208) (dec_at lsk_240 (k := 114) rfl) m_12_442 (Or.inl rfl) rfl (Nat.le_of_ble_eq_true rfl) sx_271 me_257 rfl h (fun r95 u94 h => ?_)
                    refine u_iast (pc := 211) (dec_at lsk_240 (k := 115) rfl) sx_317 g90 g91 (fun u96 e97 => ?_)
                    have h := h u96 e97
                    refine u_goto (pc := 212) (tgt := 232) (dec_at lsk_240 (k := 116) rfl) rfl ?_
                    exact u_rV (pc := 232) (dec_at lsk_240 (k := 125) rfl) rfl h
                  · have h := ifF e89 h
                    refine u_ld (v := iV l1) (pc := 215) (dec_at lsk_240 (k := 117) rfl) rfl ?_
                    refine u_c (x := 124) (pc := 216) (dec_at lsk_240 (k := 118) rfl) rfl (by decide) ?_
                    refine u_icF (pc := 218) (tgt := 228) (dec_at lsk_240 (k := 119) rfl) rfl (ci_ne g1 (by decide)) (fun e98 => ?_) (fun e98 => ?_)
                    · have h := ifT e98 h
                      refine u_ld (v := .ref 271) (pc := 221) (dec_at lsk_240 (k := 120) rfl) rfl ?_
                      refine u_cvV (As := []) (rb := 271) (st2 := []) (pc := 222) (dec_at lsk_240 (k := 121) rfl) m_12_445 (Or.inl rfl) rfl (Nat.le_of_ble_eq_true rfl) sx_271 me_256 rfl h (fun u99 h => ?_)
                      refine u_goto (pc := 225) (tgt := 232) (dec_at lsk_240 (k := 122) rfl) rfl ?_
                      exact u_rV (pc := 232) (dec_at lsk_240 (k := 125) rfl) rfl h
                    · have h := ifF e98 h
                      refine u_ld (v := .ref 271) (pc := 228) (dec_at lsk_240 (k := 123) rfl) rfl ?_
                      refine u_cvV (As := []) (rb := 271) (st2 := []) (pc := 229) (dec_at lsk_240 (k := 124) rfl) m_12_454 (Or.inl rfl) rfl (Nat.le_of_ble_eq_true rfl) sx_271 me_255 rfl h (fun u100 h => ?_)
                      exact u_rV (pc := 232) (dec_at lsk_240 (k := 125) rfl) rfl h
  · have h := ifF e2 h
    refine u_ld (v := iV l1) (pc := 6) (dec_at lsk_205 (k := 3) rfl) rfl ?_
    refine u_c (x := 106) (pc := 7) (dec_at lsk_205 (k := 4) rfl) rfl (by decide) ?_
    refine u_icT (pc := 9) (tgt := 16) (dec_at lsk_205 (k := 5) rfl) rfl (ci_gt g1 (by decide)) (fun e101 => ?_) (fun e101 => ?_)
    · have h := ifT e101 h
      refine u_ld (v := iV 0) (pc := 16) (dec_at lsk_205 (k := 8) rfl) rfl ?_
      refine u_rZ (pc := 17) (dec_at lsk_205 (k := 9) rfl) rfl (by decide) ?_
      refine u_ifF (pc := 4) (tgt := 19) (dec_at lsk_237 (k := 2) rfl) rfl (c0_ne (by decide)) (fun _ => ?_) (fun e => absurd e (by decide))
      refine u_ld (v := iV l1) (pc := 7) (dec_at lsk_237 (k := 3) rfl) rfl ?_
      refine u_c (x := 46) (pc := 8) (dec_at lsk_237 (k := 4) rfl) rfl (by decide) ?_
      refine u_icT (pc := 10) (tgt := 19) (dec_at lsk_237 (k := 5) rfl) rfl (ci_eq g1 (by decide)) (fun e102 => ?_) (fun e102 => ?_)
      · have h := ifT e102 h
        refine u_ld (v := iV 1) (pc := 19) (dec_at lsk_237 (k := 9) rfl) rfl ?_
        refine u_goto (pc := 20) (tgt := 24) (dec_at lsk_237 (k := 10) rfl) rfl ?_
        refine u_rZ (pc := 24) (dec_at lsk_237 (k := 12) rfl) rfl (by decide) ?_
        refine u_ifT (pc := 12) (tgt := 67) (dec_at lsk_240 (k := 8) rfl) rfl (c0_eq (by decide)) (fun e => absurd e (by decide)) (fun _ => ?_)
        refine u_ld (v := .ref 271) (pc := 15) (dec_at lsk_240 (k := 9) rfl) rfl ?_
        refine u_cvV (As := []) (rb := 271) (st2 := []) (pc := 16) (dec_at lsk_240 (k := 10) rfl) m_12_436 (Or.inl rfl) rfl (Nat.le_of_ble_eq_true rfl) sx_271 me_241 rfl h (fun u103 h => ?_)
        refine u_ld (v := .ref 271) (pc := 19) (dec_at lsk_240 (k := 11) rfl) rfl ?_
        refine u_ld (v := .ref 271) (pc := 20) (dec_at lsk_240 (k := 12) rfl) rfl ?_
        refine u_gZ (z := 43) (pc := 21) (dec_at lsk_240 (k := 13) rfl) f_12_394 sx_271 rfl rfl ?_
        have g104 := h.1
        have h := h.2
        refine u_ifT (pc := 24) (tgt := 31) (dec_at lsk_240 (k := 14) rfl) rfl (c0_eq g104) (fun e105 => ?_) (fun e105 => ?_)
        · have h := ifT e105 h
          refine u_ld (v := .ref 271) (pc := 31) (dec_at lsk_240 (k := 17) rfl) rfl ?_
          refine u_ld (v := iV l1) (pc := 32) (dec_at lsk_240 (k := 18) rfl) rfl ?_
          refine u_c (x := 46) (pc := 33) (dec_at lsk_240 (k := 19) rfl) rfl (by decide) ?_
          refine u_icF (pc := 35) (tgt := 43) (dec_at lsk_240 (k := 20) rfl) rfl (ci_ne g1 (by decide)) (fun _ => ?_) (fun e106 => absurd e102 e106)
          refine u_c (x := 10) (pc := 38) (dec_at lsk_240 (k := 21) rfl) rfl (by decide) ?_
          refine u_goto (pc := 40) (tgt := 58) (dec_at lsk_240 (k := 22) rfl) rfl ?_
          refine u_cvI (As := [iV 10]) (rb := 271) (st2 := [.ref 271]) (pc := 58) (dec_at lsk_240 (k := 31) rfl) m_12_439 (Or.inl rfl) rfl (Nat.le_of_ble_eq_true rfl) sx_271 me_253 rfl h (fun r108 u107 h => ?_)
          refine u_cvV (As := [iV r108]) (rb := 271) (st2 := []) (pc := 61) (dec_at lsk_240 (k := 32) rfl) m_12_448 (Or.inl rfl) rfl (Nat.le_of_ble_eq_true rfl) sx_271 me_254 rfl ?_ (fun _ h_ => h_)
          refine u_of me_254 (Nat.le_of_ble_eq_true rfl) ?_
          refine u_ld (v := .ref 271) (pc := 0) (dec_at lsk_254 (k := 0) rfl) rfl ?_
          refine u_gI (z := 61) (pc := 1) (dec_at lsk_254 (k := 1) rfl) f_12_425 sx_271 rfl rfl ?_
          refine u_ld (v := iV 1) (pc := 4) (dec_at lsk_254 (k := 2) rfl) rfl ?_
          refine u_isub (pc := 5) (dec_at lsk_254 (k := 3) rfl) ?_
          refine u_sto (lv' := [.ref 271, iV r108, iV ((u107.1 271 61) - 1)]) (pc := 6) (dec_at lsk_254 (k := 4) rfl) rfl ?_
          refine u_ld (v := .ref 271) (pc := 7) (dec_at lsk_254 (k := 5) rfl) rfl ?_
          refine u_gS (o := 46) (p := 317) (pc := 8) (dec_at lsk_254 (k := 6) rfl) f_12_148 sx_271 rfl rfl ?_
          refine u_ld (v := iV ((u107.1 271 61) - 1)) (pc := 11) (dec_at lsk_254 (k := 7) rfl) rfl ?_
          refine u_ld (v := iV r108) (pc := 12) (dec_at lsk_254 (k := 8) rfl) rfl ?_
          have g109 := h.1
          have h := h.2
          have g110 := h.1
          have h := h.2
          refine u_iast (pc := 13) (dec_at lsk_254 (k := 9) rfl) sx_317 g109 g110 (fun u111 e112 => ?_)
          have h := h u111 e112
          refine u_ld (v := .ref 271) (pc := 14) (dec_at lsk_254 (k := 10) rfl) rfl ?_
          refine u_gS (o := 47) (p := 318) (pc := 15) (dec_at lsk_254 (k := 11) rfl) f_12_151 sx_271 rfl rfl ?_
          refine u_ld (v := iV ((u107.1 271 61) - 1)) (pc := 18) (dec_at lsk_254 (k := 12) rfl) rfl ?_
          refine u_ld (v := .ref 271) (pc := 19) (dec_at lsk_254 (k := 13) rfl) rfl ?_
          refine u_gS (o := 48) (p := 319) (pc := 20) (dec_at lsk_254 (k := 14) rfl) f_12_154 sx_271 rfl rfl ?_
          refine u_ld (v := iV ((u107.1 271 61) - 1)) (pc := 23) (dec_at lsk_254 (k := 15) rfl) rfl ?_
          refine u_iald (pc := 24) (dec_at lsk_254 (k := 16) rfl) sx_319 g109 g110 ?_
          refine u_iast (pc := 25) (dec_at lsk_254 (k := 17) rfl) sx_318 g109 g110 (fun u113 e114 => ?_)
          have h := h u113 e114
          refine u_ld (v := .ref 271) (pc := 26) (dec_at lsk_254 (k := 18) rfl) rfl ?_
          refine u_gS (o := 48) (p := 319) (pc := 27) (dec_at lsk_254 (k := 19) rfl) f_12_154 sx_271 rfl rfl ?_
          refine u_ld (v := iV ((u107.1 271 61) - 1)) (pc := 30) (dec_at lsk_254 (k := 20) rfl) rfl ?_
          refine u_ld (v := iV 0) (pc := 31) (dec_at lsk_254 (k := 21) rfl) rfl ?_
          refine u_iast (pc := 32) (dec_at lsk_254 (k := 22) rfl) sx_319 g109 g110 (fun u115 e116 => ?_)
          have h := h u115 e116
          refine u_rV (pc := 33) (dec_at lsk_254 (k := 23) rfl) rfl ?_
          refine u_goto (pc := 64) (tgt := 232) (dec_at lsk_240 (k := 33) rfl) rfl ?_
          exact u_rV (pc := 232) (dec_at lsk_240 (k := 125) rfl) rfl h
        · have h := ifF e105 h
          refine u_ld (v := iV 0) (pc := 27) (dec_at lsk_240 (k := 15) rfl) rfl ?_
          refine u_goto (pc := 28) (tgt := 61) (dec_at lsk_240 (k := 16) rfl) rfl ?_
          refine u_cvV (As := [iV 0]) (rb := 271) (st2 := []) (pc := 61) (dec_at lsk_240 (k := 32) rfl) m_12_448 (Or.inl rfl) rfl (Nat.le_of_ble_eq_true rfl) sx_271 me_254 rfl ?_ (fun _ h_ => h_)
          refine u_of me_254 (Nat.le_of_ble_eq_true rfl) ?_
          refine u_ld (v := .ref 271) (pc := 0) (dec_at lsk_254 (k := 0) rfl) rfl ?_
          refine u_gI (z := 61) (pc := 1) (dec_at lsk_254 (k := 1) rfl) f_12_425 sx_271 rfl rfl ?_
          refine u_ld (v := iV 1) (pc := 4) (dec_at lsk_254 (k := 2) rfl) rfl ?_
          refine u_isub (pc := 5) (dec_at lsk_254 (k := 3) rfl) ?_
          refine u_sto (lv' := [.ref 271, iV 0, iV ((u103.1 271 61) - 1)]) (pc := 6) (dec_at lsk_254 (k := 4) rfl) rfl ?_
          refine u_ld (v := .ref 271) (pc := 7) (dec_at lsk_254 (k := 5) rfl) rfl ?_
          refine u_gS (o := 46) (p := 317) (pc := 8) (dec_at lsk_254 (k := 6) rfl) f_12_148 sx_271 rfl rfl ?_
          refine u_ld (v := iV ((u103.1 271 61) - 1)) (pc := 11) (dec_at lsk_254 (k := 7) rfl) rfl ?_
          refine u_ld (v := iV 0) (pc := 12) (dec_at lsk_254 (k := 8) rfl) rfl ?_
          have g117 := h.1
          have h := h.2
          have g118 := h.1
          have h := h.2
          refine u_iast (pc := 13) (dec_at lsk_254 (k := 9) rfl) sx_317 g117 g118 (fun u119 e120 => ?_)
          have h := h u119 e120
          refine u_ld (v := .ref 271) (pc := 14) (dec_at lsk_254 (k := 10) rfl) rfl ?_
          refine u_gS (o := 47) (p := 318) (pc := 15) (dec_at lsk_254 (k := 11) rfl) f_12_151 sx_271 rfl rfl ?_
          refine u_ld (v := iV ((u103.1 271 61) - 1)) (pc := 18) (dec_at lsk_254 (k := 12) rfl) rfl ?_
          refine u_ld (v := .ref 271) (pc := 19) (dec_at lsk_254 (k := 13) rfl) rfl ?_
          refine u_gS (o := 48) (p := 319) (pc := 20) (dec_at lsk_254 (k := 14) rfl) f_12_154 sx_271 rfl rfl ?_
          refine u_ld (v := iV ((u103.1 271 61) - 1)) (pc := 23) (dec_at lsk_254 (k := 15) rfl) rfl ?_
          refine u_iald (pc := 24) (dec_at lsk_254 (k := 16) rfl) sx_319 g117 g118 ?_
          refine u_iast (pc := 25) (dec_at lsk_254 (k := 17) rfl) sx_318 g117 g118 (fun u121 e122 => ?_)
          have h := h u121 e122
          refine u_ld (v := .ref 271) (pc := 26) (dec_at lsk_254 (k := 18) rfl) rfl ?_
          refine u_gS (o := 48) (p := 319) (pc := 27) (dec_at lsk_254 (k := 19) rfl) f_12_154 sx_271 rfl rfl ?_
          refine u_ld (v := iV ((u103.1 271 61) - 1)) (pc := 30) (dec_at lsk_254 (k := 20) rfl) rfl ?_
          refine u_ld (v := iV 0) (pc := 31) (dec_at lsk_254 (k := 21) rfl) rfl ?_
          refine u_iast (pc := 32) (dec_at lsk_254 (k := 22) rfl) sx_319 g117 g118 (fun u123 e124 => ?_)
          have h := h u123 e124
          refine u_rV (pc := 33) (dec_at lsk_254 (k := 23) rfl) rfl ?_
          refine u_goto (pc := 64) (tgt := 232) (dec_at lsk_240 (k := 33) rfl) rfl ?_
          exact u_rV (pc := 232) (dec_at lsk_240 (k := 125) rfl) rfl h
      · have h := ifF e102 h
        refine u_ld (v := iV l1) (pc := 13) (dec_at lsk_237 (k := 6) rfl) rfl ?_
        refine u_c (x := 48) (pc := 14) (dec_at lsk_237 (k := 7) rfl) rfl (by decide) ?_
        refine u_icF (pc := 16) (tgt := 23) (dec_at lsk_237 (k := 8) rfl) rfl (ci_ne g1 (by decide)) (fun e125 => ?_) (fun e125 => ?_)
        · have h := ifT e125 h
          refine u_ld (v := iV 1) (pc := 19) (dec_at lsk_237 (k := 9) rfl) rfl ?_
          refine u_goto (pc := 20) (tgt := 24) (dec_at lsk_237 (k := 10) rfl) rfl ?_
          refine u_rZ (pc := 24) (dec_at lsk_237 (k := 12) rfl) rfl (by decide) ?_
          refine u_ifT (pc := 12) (tgt := 67) (dec_at lsk_240 (k := 8) rfl) rfl (c0_eq (by decide)) (fun e => absurd e (by decide)) (fun _ => ?_)
          refine u_ld (v := .ref 271) (pc := 15) (dec_at lsk_240 (k := 9) rfl) rfl ?_
          refine u_cvV (As := []) (rb := 271) (st2 := []) (pc := 16) (dec_at lsk_240 (k := 10) rfl) m_12_436 (Or.inl rfl) rfl (Nat.le_of_ble_eq_true rfl) sx_271 me_241 rfl h (fun u126 h => ?_)
          refine u_ld (v := .ref 271) (pc := 19) (dec_at lsk_240 (k := 11) rfl) rfl ?_
          refine u_ld (v := .ref 271) (pc := 20) (dec_at lsk_240 (k := 12) rfl) rfl ?_
          refine u_gZ (z := 43) (pc := 21) (dec_at lsk_240 (k := 13) rfl) f_12_394 sx_271 rfl rfl ?_
          have g127 := h.1
          have h := h.2
          refine u_ifT (pc := 24) (tgt := 31) (dec_at lsk_240 (k := 14) rfl) rfl (c0_eq g127) (fun e128 => ?_) (fun e128 => ?_)
          · have h := ifT e128 h
            refine u_ld (v := .ref 271) (pc := 31) (dec_at lsk_240 (k := 17) rfl) rfl ?_
            refine u_ld (v := iV l1) (pc := 32) (dec_at lsk_240 (k := 18) rfl) rfl ?_
            refine u_c (x := 46) (pc := 33) (dec_at lsk_240 (k := 19) rfl) rfl (by decide) ?_
            refine u_icF (pc := 35) (tgt := 43) (dec_at lsk_240 (k := 20) rfl) rfl (ci_ne g1 (by decide)) (fun e129 => absurd e129 e102) (fun _ => ?_)
            refine u_ld (v := iV l1) (pc := 43) (dec_at lsk_240 (k := 23) rfl) rfl ?_
            refine u_c (x := 48) (pc := 44) (dec_at lsk_240 (k := 24) rfl) rfl (by decide) ?_
            refine u_icF (pc := 46) (tgt := 54) (dec_at lsk_240 (k := 25) rfl) rfl (ci_ne g1 (by decide)) (fun _ => ?_) (fun e130 => absurd e125 e130)
            refine u_c (x := 11) (pc := 49) (dec_at lsk_240 (k := 26) rfl) rfl (by decide) ?_
            refine u_goto (pc := 51) (tgt := 58) (dec_at lsk_240 (k := 27) rfl) rfl ?_
            refine u_cvI (As := [iV 11]) (rb := 271) (st2 := [.ref 271]) (pc := 58) (dec_at lsk_240 (k := 31) rfl) m_12_439 (Or.inl rfl) rfl (Nat.le_of_ble_eq_true rfl) sx_271 me_253 rfl h (fun r132 u131 h => ?_)
            refine u_cvV (As := [iV r132]) (rb := 271) (st2 := []) (pc := 61) (dec_at lsk_240 (k := 32) rfl) m_12_448 (Or.inl rfl) rfl (Nat.le_of_ble_eq_true rfl) sx_271 me_254 rfl ?_ (fun _ h_ => h_)
            refine u_of me_254 (Nat.le_of_ble_eq_true rfl) ?_
            refine u_ld (v := .ref 271) (pc := 0) (dec_at lsk_254 (k := 0) rfl) rfl ?_
            refine u_gI (z := 61) (pc := 1) (dec_at lsk_254 (k := 1) rfl) f_12_425 sx_271 rfl rfl ?_
            refine u_ld (v := iV 1) (pc := 4) (dec_at lsk_254 (k := 2) rfl) rfl ?_
            refine u_isub (pc := 5) (dec_at lsk_254 (k := 3) rfl) ?_
            refine u_sto (lv' := [.ref 271, iV r132, iV ((u131.1 271 61) - 1)]) (pc := 6) (dec_at lsk_254 (k := 4) rfl) rfl ?_
            refine u_ld (v := .ref 271) (pc := 7) (dec_at lsk_254 (k := 5) rfl) rfl ?_
            refine u_gS (o := 46) (p := 317) (pc := 8) (dec_at lsk_254 (k := 6) rfl) f_12_148 sx_271 rfl rfl ?_
            refine u_ld (v := iV ((u131.1 271 61) - 1)) (pc := 11) (dec_at lsk_254 (k := 7) rfl) rfl ?_
            refine u_ld (v := iV r132) (pc := 12) (dec_at lsk_254 (k := 8) rfl) rfl ?_
            have g133 := h.1
            have h := h.2
            have g134 := h.1
            have h := h.2
            refine u_iast (pc := 13) (dec_at lsk_254 (k := 9) rfl) sx_317 g133 g134 (fun u135 e136 => ?_)
            have h := h u135 e136
            refine u_ld (v := .ref 271) (pc := 14) (dec_at lsk_254 (k := 10) rfl) rfl ?_
            refine u_gS (o := 47) (p := 318) (pc := 15) (dec_at lsk_254 (k := 11) rfl) f_12_151 sx_271 rfl rfl ?_
            refine u_ld (v := iV ((u131.1 271 61) - 1)) (pc := 18) (dec_at lsk_254 (k := 12) rfl) rfl ?_
            refine u_ld (v := .ref 271) (pc := 19) (dec_at lsk_254 (k := 13) rfl) rfl ?_
            refine u_gS (o := 48) (p := 319) (pc := 20) (dec_at lsk_254 (k := 14) rfl) f_12_154 sx_271 rfl rfl ?_
            refine u_ld (v := iV ((u131.1 271 61) - 1)) (pc := 23) (dec_at lsk_254 (k := 15) rfl) rfl ?_
            refine u_iald (pc := 24) (dec_at lsk_254 (k := 16) rfl) sx_319 g133 g134 ?_
            refine u_iast (pc := 25) (dec_at lsk_254 (k := 17) rfl) sx_318 g133 g134 (fun u137 e138 => ?_)
            have h := h u137 e138
            refine u_ld (v := .ref 271) (pc := 26) (dec_at lsk_254 (k := 18) rfl) rfl ?_
            refine u_gS (o := 48) (p := 319) (pc := 27) (dec_at lsk_254 (k := 19) rfl) f_12_154 sx_271 rfl rfl ?_
            refine u_ld (v := iV ((u131.1 271 61) - 1)) (pc := 30) (dec_at lsk_254 (k := 20) rfl) rfl ?_
            refine u_ld (v := iV 0) (pc := 31) (dec_at lsk_254 (k := 21) rfl) rfl ?_
            refine u_iast (pc := 32) (dec_at lsk_254 (k := 22) rfl) sx_319 g133 g134 (fun u139 e140 => ?_)
            have h := h u139 e140
            refine u_rV (pc := 33) (dec_at lsk_254 (k := 23) rfl) rfl ?_
            refine u_goto (pc := 64) (tgt := 232) (dec_at lsk_240 (k := 33) rfl) rfl ?_
            exact u_rV (pc := 232) (dec_at lsk_240 (k := 125) rfl) rfl h
          · have h := ifF e128 h
            refine u_ld (v := iV 0) (pc := 27) (dec_at lsk_240 (k := 15) rfl) rfl ?_
            refine u_goto (pc := 28) (tgt := 61) (dec_at lsk_240 (k := 16) rfl) rfl ?_
            refine u_cvV (As := [iV 0]) (rb := 271) (st2 := []) (pc := 61) (dec_at lsk_240 (k := 32) rfl) m_12_448 (Or.inl rfl) rfl (Nat.le_of_ble_eq_true rfl) sx_271 me_254 rfl ?_ (fun _ h_ => h_)
            refine u_of me_254 (Nat.le_of_ble_eq_true rfl) ?_
            refine u_ld (v := .ref 271) (pc := 0) (dec_at lsk_254 (k := 0) rfl) rfl ?_
            refine u_gI (z := 61) (pc := 1) (dec_at lsk_254 (k := 1) rfl) f_12_425 sx_271 rfl rfl ?_
            refine u_ld (v := iV 1) (pc := 4) (dec_at lsk_254 (k := 2) rfl) rfl ?_
            refine u_isub (pc := 5) (dec_at lsk_254 (k := 3) rfl) ?_
            refine u_sto (lv' := [.ref 271, iV 0, iV ((u126.1 271 61) - 1)]) (pc := 6) (dec_at lsk_254 (k := 4) rfl) rfl ?_
            refine u_ld (v := .ref 271) (pc := 7) (dec_at lsk_254 (k := 5) rfl) rfl ?_
            refine u_gS (o := 46) (p := 317) (pc := 8) (dec_at lsk_254 (k := 6) rfl) f_12_148 sx_271 rfl rfl ?_
            refine u_ld (v := iV ((u126.1 271 61) - 1)) (pc := 11) (dec_at lsk_254 (k := 7) rfl) rfl ?_
            refine u_ld (v := iV 0) (pc := 12) (dec_at lsk_254 (k := 8) rfl) rfl ?_
            have g141 := h.1
            have h := h.2
            have g142 := h.1
            have h := h.2
            refine u_iast (pc := 13) (dec_at lsk_254 (k := 9) rfl) sx_317 g141 g142 (fun u143 e144 => ?_)
            have h := h u143 e144
            refine u_ld (v := .ref 271) (pc := 14) (dec_at lsk_254 (k := 10) rfl) rfl ?_
            refine u_gS (o := 47) (p := 318) (pc := 15) (dec_at lsk_254 (k := 11) rfl) f_12_151 sx_271 rfl rfl ?_
            refine u_ld (v := iV ((u126.1 271 61) - 1)) (pc := 18) (dec_at lsk_254 (k := 12) rfl) rfl ?_
            refine u_ld (v := .ref 271) (pc := 19) (dec_at lsk_254 (k := 13) rfl) rfl ?_
            refine u_gS (o := 48) (p := 319) (pc := 20) (dec_at lsk_254 (k := 14) rfl) f_12_154 sx_271 rfl rfl ?_
            refine u_ld (v := iV ((u126.1 271 61) - 1)) (pc := 23) (dec_at lsk_254 (k := 15) rfl) rfl ?_
            refine u_iald (pc := 24) (dec_at lsk_254 (k := 16) rfl) sx_319 g141 g142 ?_
            refine u_iast (pc := 25) (dec_at lsk_254 (k := 17) rfl) sx_318 g141 g142 (fun u145 e146 => ?_)
            have h := h u145 e146
            refine u_ld (v := .ref 271) (pc := 26) (dec_at lsk_254 (k := 18) rfl) rfl ?_
            refine u_gS (o := 48) (p := 319) (pc := 27) (dec_at lsk_254 (k := 19) rfl) f_12_154 sx_271 rfl rfl ?_
            refine u_ld (v := iV ((u126.1 271 61) - 1)) (pc := 30) (dec_at lsk_254 (k := 20) rfl) rfl ?_
            refine u_ld (v := iV 0) (pc := 31) (dec_at lsk_254 (k := 21) rfl) rfl ?_
            refine u_iast (pc := 32) (dec_at lsk_254 (k := 22) rfl) sx_319 g141 g142 (fun u147 e148 => ?_)
            have h := h u147 e148
            refine u_rV (pc := 33) (dec_at lsk_254 (k := 23) rfl) rfl ?_
            refine u_goto (pc := 64) (tgt := 232) (dec_at lsk_240 (k := 33) rfl) rfl ?_
            exact u_rV (pc := 232) (dec_at lsk_240 (k := 125) rfl) rfl h
        · have h := ifF e125 h
          refine u_ld (v := iV 0) (pc := 23) (dec_at lsk_237 (k := 11) rfl) rfl ?_
          refine u_rZ (pc := 24) (dec_at lsk_237 (k := 12) rfl) rfl (by decide) ?_
          refine u_ifT (pc := 12) (tgt := 67) (dec_at lsk_240 (k := 8) rfl) rfl (c0_eq (by decide)) (fun _ => ?_) (fun e => absurd e (by decide))
          refine u_ld (v := iV l1) (pc := 67) (dec_at lsk_240 (k := 34) rfl) rfl ?_
          refine u_c (x := 33) (pc := 68) (dec_at lsk_240 (k := 35) rfl) rfl (by decide) ?_
          refine u_icF (pc := 70) (tgt := 90) (dec_at lsk_240 (k := 36) rfl) rfl (ci_ne g1 (by decide)) (fun e149 => ?_) (fun e149 => ?_)
          · have h := ifT e149 h
            refine u_ld (v := .ref 271) (pc := 73) (dec_at lsk_240 (k := 37) rfl) rfl ?_
            refine u_cvV (As := []) (rb := 271) (st2 := []) (pc := 74) (dec_at lsk_240 (k := 38) rfl) m_12_436 (Or.inl rfl) rfl (Nat.le_of_ble_eq_true rfl) sx_271 me_241 rfl h (fun u150 h => ?_)
            refine u_ld (v := .ref 271) (pc := 77) (dec_at lsk_240 (k := 39) rfl) rfl ?_
            refine u_gS (o := 48) (p := 319) (pc := 78) (dec_at lsk_240 (k := 40) rfl) f_12_154 sx_271 rfl rfl ?_
            refine u_ld (v := iV ((u.1 271 61) - 1)) (pc := 81) (dec_at lsk_240 (k := 41) rfl) rfl ?_
            refine u_st (st' := [iV ((u.1 271 61) - 1), .ref 319, iV ((u.1 271 61) - 1), .ref 319]) (pc := 82) (dec_at lsk_240 (k := 42) rfl) rfl ?_
            have g151 := h.1
            have h := h.2
            have g152 := h.1
            have h := h.2
            refine u_iald (pc := 83) (dec_at lsk_240 (k := 43) rfl) sx_319 g151 g152 ?_
            refine u_ld (v := iV 1) (pc := 84) (dec_at lsk_240 (k := 44) rfl) rfl ?_
            refine u_iadd (pc := 85) (dec_at lsk_240 (k := 45) rfl) ?_
            refine u_iast (pc := 86) (dec_at lsk_240 (k := 46) rfl) sx_319 g151 g152 (fun u153 e154 => ?_)
            have h := h u153 e154
            refine u_goto (pc := 87) (tgt := 232) (dec_at lsk_240 (k := 47) rfl) rfl ?_
            exact u_rV (pc := 232) (dec_at lsk_240 (k := 125) rfl) rfl h
          · have h := ifF e149 h
            refine u_ld (v := iV l1) (pc := 90) (dec_at lsk_240 (k := 48) rfl) rfl ?_
            refine u_c (x := 40) (pc := 91) (dec_at lsk_240 (k := 49) rfl) rfl (by decide) ?_
            refine u_icF (pc := 93) (tgt := 107) (dec_at lsk_240 (k := 50) rfl) rfl (ci_ne g1 (by decide)) (fun e155 => ?_) (fun e155 => ?_)
            · have h := ifT e155 h
              refine u_ld (v := .ref 271) (pc := 96) (dec_at lsk_240 (k := 51) rfl) rfl ?_
              refine u_cvV (As := []) (rb := 271) (st2 := []) (pc := 97) (dec_at lsk_240 (k := 52) rfl) m_12_436 (Or.inl rfl) rfl (Nat.le_of_ble_eq_true rfl) sx_271 me_241 rfl h (fun u156 h => ?_)
              refine u_ld (v := .ref 271) (pc := 100) (dec_at lsk_240 (k := 53) rfl) rfl ?_
              refine u_cvV (As := []) (rb := 271) (st2 := []) (pc := 101) (dec_at lsk_240 (k := 54) rfl) m_12_451 (Or.inl rfl) rfl (Nat.le_of_ble_eq_true rfl) sx_271 me_239 rfl h (fun u157 h => ?_)
              refine u_goto (pc := 104) (tgt := 232) (dec_at lsk_240 (k := 55) rfl) rfl ?_
              exact u_rV (pc := 232) (dec_at lsk_240 (k := 125) rfl) rfl h
            · have h := ifF e155 h
              refine u_ld (v := iV l1) (pc := 107) (dec_at lsk_240 (k := 56) rfl) rfl ?_
              refine u_c (x := 41) (pc := 108) (dec_at lsk_240 (k := 57) rfl) rfl (by decide) ?_
              refine u_icF (pc := 110) (tgt := 142) (dec_at lsk_240 (k := 58) rfl) rfl (ci_ne g1 (by decide)) (fun e158 => ?_) (fun e158 => ?_)
              · have h := ifT e158 h
                refine u_ld (v := .ref 271) (pc := 113) (dec_at lsk_240 (k := 59) rfl) rfl ?_
                refine u_cvV (As := []) (rb := 271) (st2 := []) (pc := 114) (dec_at lsk_240 (k := 60) rfl) m_12_454 (Or.inl rfl) rfl (Nat.le_of_ble_eq_true rfl) sx_271 me_255 rfl h (fun u159 h => ?_)
                refine u_ld (v := .ref 271) (pc := 117) (dec_at lsk_240 (k := 61) rfl) rfl ?_
                refine u_gS (o := 43) (p := 314) (pc := 118) (dec_at lsk_240 (k := 62) rfl) f_12_139 sx_271 rfl rfl ?_
                refine u_ld (v := iV ((u.1 271 61) - 1)) (pc := 121) (dec_at lsk_240 (k := 63) rfl) rfl ?_
                have g160 := h.1
                have h := h.2
                have g161 := h.1
                have h := h.2
                refine u_iald (pc := 122) (dec_at lsk_240 (k := 64) rfl) sx_314 g160 g161 ?_
                refine u_sto (lv' := [.ref 271, iV l1, iV ((u.1 271 61) - 1), iV (u159.1 314 ((u.1 271 61) - 1))]) (pc := 123) (dec_at lsk_240 (k := 65) rfl) rfl ?_
                refine u_ld (v := .ref 271) (pc := 124) (dec_at lsk_240 (k := 66) rfl) rfl ?_
                refine u_ld (v := .ref 271) (pc := 125) (dec_at lsk_240 (k := 67) rfl) rfl ?_
                refine u_gI (z := 61) (pc := 126) (dec_at lsk_240 (k := 68) rfl) f_12_425 sx_271 rfl rfl ?_
                refine u_ld (v := iV 1) (pc := 129) (dec_at lsk_240 (k := 69) rfl) rfl ?_
                refine u_isub (pc := 130) (dec_at lsk_240 (k := 70) rfl) ?_
                refine u_pI (z := 61) (pc := 131) (dec_at lsk_240 (k := 71) rfl) f_12_425 sx_271 rfl rfl rfl rfl (fun u162 e163 => ?_)
                have h := h u162 e163
                refine u_ld (v := .ref 271) (pc := 134) (dec_at lsk_240 (k := 72) rfl) rfl ?_
                refine u_ld (v := iV (u159.1 314 ((u.1 271 61) - 1))) (pc := 135) (dec_at lsk_240 (k := 73) rfl) rfl ?_
                refine u_cvV (As := [iV (u159.1 314 ((u.1 271 61) - 1))]) (rb := 271) (st2 := []) (pc := 136) (dec_at lsk_240 (k := 74) rfl) m_12_448 (Or.inl rfl) rfl (Nat.le_of_ble_eq_true rfl) sx_271 me_254 rfl ?_ (fun _ h_ => h_)
                refine u_of me_254 (Nat.le_of_ble_eq_true rfl) ?_
                refine u_ld (v := .ref 271) (pc := 0) (dec_at lsk_254 (k := 0) rfl) rfl ?_
                refine u_gI (z := 61) (pc := 1) (dec_at lsk_254 (k := 1) rfl) f_12_425 sx_271 rfl rfl ?_
                refine u_ld (v := iV 1) (pc := 4) (dec_at lsk_254 (k := 2) rfl) rfl ?_
                refine u_isub (pc := 5) (dec_at lsk_254 (k := 3) rfl) ?_
                refine u_sto (lv' := [.ref 271, iV (u159.1 314 ((u.1 271 61) - 1)), iV ((u162.1 271 61) - 1)]) (pc := 6) (dec_at lsk_254 (k := 4) rfl) rfl ?_
                refine u_ld (v := .ref 271) (pc := 7) (dec_at lsk_254 (k := 5) rfl) rfl ?_
                refine u_gS (o := 46) (p := 317) (pc := 8) (dec_at lsk_254 (k := 6) rfl) f_12_148 sx_271 rfl rfl ?_
                refine u_ld (v := iV ((u162.1 271 61) - 1)) (pc := 11) (dec_at lsk_254 (k := 7) rfl) rfl ?_
                refine u_ld (v := iV (u159.1 314 ((u.1 271 61) - 1))) (pc := 12) (dec_at lsk_254 (k := 8) rfl) rfl ?_
                have g164 := h.1
                have h := h.2
                have g165 := h.1
                have h := h.2
                refine u_iast (pc := 13) (dec_at lsk_254 (k := 9) rfl) sx_317 g164 g165 (fun u166 e167 => ?_)
                have h := h u166 e167
                refine u_ld (v := .ref 271) (pc := 14) (dec_at lsk_254 (k := 10) rfl) rfl ?_
                refine u_gS (o := 47) (p := 318) (pc := 15) (dec_at lsk_254 (k := 11) rfl) f_12_151 sx_271 rfl rfl ?_
                refine u_ld (v := iV ((u162.1 271 61) - 1)) (pc := 18) (dec_at lsk_254 (k := 12) rfl) rfl ?_
                refine u_ld (v := .ref 271) (pc := 19) (dec_at lsk_254 (k := 13) rfl) rfl ?_
                refine u_gS (o := 48) (p := 319) (pc := 20) (dec_at lsk_254 (k := 14) rfl) f_12_154 sx_271 rfl rfl ?_
                refine u_ld (v := iV ((u162.1 271 61) - 1)) (pc := 23) (dec_at lsk_254 (k := 15) rfl) rfl ?_
                refine u_iald (pc := 24) (dec_at lsk_254 (k := 16) rfl) sx_319 g164 g165 ?_
                refine u_iast (pc := 25) (dec_at lsk_254 (k := 17) rfl) sx_318 g164 g165 (fun u168 e169 => ?_)
                have h := h u168 e169
                refine u_ld (v := .ref 271) (pc := 26) (dec_at lsk_254 (k := 18) rfl) rfl ?_
                refine u_gS (o := 48) (p := 319) (pc := 27) (dec_at lsk_254 (k := 19) rfl) f_12_154 sx_271 rfl rfl ?_
                refine u_ld (v := iV ((u162.1 271 61) - 1)) (pc := 30) (dec_at lsk_254 (k := 20) rfl) rfl ?_
                refine u_ld (v := iV 0) (pc := 31) (dec_at lsk_254 (k := 21) rfl) rfl ?_
                refine u_iast (pc := 32) (dec_at lsk_254 (k := 22) rfl) sx_319 g164 g165 (fun u170 e171 => ?_)
                have h := h u170 e171
                refine u_rV (pc := 33) (dec_at lsk_254 (k := 23) rfl) rfl ?_
                refine u_goto (pc := 139) (tgt := 232) (dec_at lsk_240 (k := 75) rfl) rfl ?_
                exact u_rV (pc := 232) (dec_at lsk_240 (k := 125) rfl) rfl h
              · have h := ifF e158 h
                refine u_ld (v := iV l1) (pc := 142) (dec_at lsk_240 (k := 76) rfl) rfl ?_
                refine u_c (x := 42) (pc := 143) (dec_at lsk_240 (k := 77) rfl) rfl (by decide) ?_
                refine u_icT (pc := 145) (tgt := 154) (dec_at lsk_240 (k := 78) rfl) rfl (ci_eq g1 (by decide)) (fun e172 => ?_) (fun e172 => ?_)
                · have h := ifT e172 h
                  refine u_ld (v := .ref 271) (pc := 154) (dec_at lsk_240 (k := 82) rfl) rfl ?_
                  refine u_gS (o := 46) (p := 317) (pc := 155) (dec_at lsk_240 (k := 83) rfl) f_12_148 sx_271 rfl rfl ?_
                  refine u_ld (v := iV ((u.1 271 61) - 1)) (pc := 158) (dec_at lsk_240 (k := 84) rfl) rfl ?_
                  refine u_ld (v := .ref 271) (pc := 159) (dec_at lsk_240 (k := 85) rfl) rfl ?_
                  refine u_ld (v := .ref 271) (pc := 160) (dec_at lsk_240 (k := 86) rfl) rfl ?_
                  refine u_gS (o := 46) (p := 317) (pc := 161) (dec_at lsk_240 (k := 87) rfl) f_12_148 sx_271 rfl rfl ?_
                  refine u_ld (v := iV ((u.1 271 61) - 1)) (pc := 164) (dec_at lsk_240 (k := 88) rfl) rfl ?_
                  have g173 := h.1
                  have h := h.2
                  have g174 := h.1
                  have h := h.2
                  refine u_iald (pc := 165) (dec_at lsk_240 (k := 89) rfl) sx_317 g173 g174 ?_
                  refine u_ld (v := iV l1) (pc := 166) (dec_at lsk_240 (k := 90) rfl) rfl ?_
                  refine u_c (x := 42) (pc := 167) (dec_at lsk_240 (k := 91) rfl) rfl (by decide) ?_
                  refine u_icF (pc := 169) (tgt := 176) (dec_at lsk_240 (k := 92) rfl) rfl (ci_ne g1 (by decide)) (fun _ => ?_) (fun e175 => absurd e172 e175)
                  refine u_ld (v := iV 1) (pc := 172) (dec_at lsk_240 (k := 93) rfl) rfl ?_
                  refine u_goto (pc := 173) (tgt := 177) (dec_at lsk_240 (k := 94) rfl) rfl ?_
                  refine u_cvI (As := [iV (u.1 317 ((u.1 271 61) - 1)), iV 1]) (rb := 271) (st2 := [iV ((u.1 271 61) - 1), .ref 317]) (pc := 177) (dec_at lsk_240 (k := 96) rfl) m_12_457 (Or.inl rfl) rfl (Nat.le_of_ble_eq_true rfl) sx_271 me_258 rfl h (fun r177 u176 h => ?_)
                  refine u_iast (pc := 180) (dec_at lsk_240 (k := 97) rfl) sx_317 g173 g174 (fun u178 e179 => ?_)
                  have h := h u178 e179
                  refine u_goto (pc := 181) (tgt := 232) (dec_at lsk_240 (k := 98) rfl) rfl ?_
                  exact u_rV (pc := 232) (dec_at lsk_240 (k := 125) rfl) rfl h
                · have h := ifF e172 h
                  refine u_ld (v := iV l1) (pc := 148) (dec_at lsk_240 (k := 79) rfl) rfl ?_
                  refine u_c (x := 43) (pc := 149) (dec_at lsk_240 (k := 80) rfl) rfl (by decide) ?_
                  refine u_icF (pc := 151) (tgt := 184) (dec_at lsk_240 (k := 81) rfl) rfl (ci_ne g1 (by decide)) (fun e180 => ?_) (fun e180 => ?_)
                  · have h := ifT e180 h
                    refine u_ld (v := .ref 271) (pc := 154) (dec_at lsk_240 (k := 82) rfl) rfl ?_
                    refine u_gS (o := 46) (p := 317) (pc := 155) (dec_at lsk_240 (k := 83) rfl) f_12_148 sx_271 rfl rfl ?_
                    refine u_ld (v := iV ((u.1 271 61) - 1)) (pc := 158) (dec_at lsk_240 (k := 84) rfl) rfl ?_
                    refine u_ld (v := .ref 271) (pc := 159) (dec_at lsk_240 (k := 85) rfl) rfl ?_
                    refine u_ld (v := .ref 271) (pc := 160) (dec_at lsk_240 (k := 86) rfl) rfl ?_
                    refine u_gS (o := 46) (p := 317) (pc := 161) (dec_at lsk_240 (k := 87) rfl) f_12_148 sx_271 rfl rfl ?_
                    refine u_ld (v := iV ((u.1 271 61) - 1)) (pc := 164) (dec_at lsk_240 (k := 88) rfl) rfl ?_
                    have g181 := h.1
                    have h := h.2
                    have g182 := h.1
                    have h := h.2
                    refine u_iald (pc := 165) (dec_at lsk_240 (k := 89) rfl) sx_317 g181 g182 ?_
                    refine u_ld (v := iV l1) (pc := 166) (dec_at lsk_240 (k := 90) rfl) rfl ?_
                    refine u_c (x := 42) (pc := 167) (dec_at lsk_240 (k := 91) rfl) rfl (by decide) ?_
                    refine u_icF (pc := 169) (tgt := 176) (dec_at lsk_240 (k := 92) rfl) rfl (ci_ne g1 (by decide)) (fun e183 => absurd e183 e172) (fun _ => ?_)
                    refine u_ld (v := iV 0) (pc := 176) (dec_at lsk_240 (k := 95) rfl) rfl ?_
                    refine u_cvI (As := [iV (u.1 317 ((u.1 271 61) - 1)), iV 0]) (rb := 271) (st2 := [iV ((u.1 271 61) - 1), .ref 317]) (pc := 177) (dec_at lsk_240 (k := 96) rfl) m_12_457 (Or.inl rfl) rfl (Nat.le_of_ble_eq_true rfl) sx_271 me_258 rfl h (fun r185 u184 h => ?_)
                    refine u_iast (pc := 180) (dec_at lsk_240 (k := 97) rfl) sx_317 g181 g182 (fun u186 e187 => ?_)
                    have h := h u186 e187
                    refine u_goto (pc := 181) (tgt := 232) (dec_at lsk_240 (k := 98) rfl) rfl ?_
                    exact u_rV (pc := 232) (dec_at lsk_240 (k := 125) rfl) rfl h
                  · have h := ifF e180 h
                    refine u_ld (v := iV l1) (pc := 184) (dec_at lsk_240 (k := 99) rfl) rfl ?_
                    refine u_c (x := 63) (pc := 185) (dec_at lsk_240 (k := 100) rfl) rfl (by decide) ?_
                    refine u_icF (pc := 187) (tgt := 215) (dec_at lsk_240 (k := 101) rfl) rfl (ci_ne g1 (by decide)) (fun e188 => ?_) (fun e188 => ?_)
                    · have h := ifT e188 h
                      refine u_ld (v := .ref 271) (pc := 190) (dec_at lsk_240 (k := 102) rfl) rfl ?_
                      refine u_gS (o := 46) (p := 317) (pc := 191) (dec_at lsk_240 (k := 103) rfl) f_12_148 sx_271 rfl rfl ?_
                      refine u_ld (v := iV ((u.1 271 61) - 1)) (pc := 194) (dec_at lsk_240 (k := 104) rfl) rfl ?_
                      refine u_ld (v := .ref 271) (pc := 195) (dec_at lsk_240 (k := 105) rfl) rfl ?_
                      refine u_ld (v := .ref 271) (pc := 196) (dec_at lsk_240 (k := 106) rfl) rfl ?_
                      refine u_gS (o := 46) (p := 317) (pc := 197) (dec_at lsk_240 (k := 107) rfl) f_12_148 sx_271 rfl rfl ?_
                      refine u_ld (v := iV ((u.1 271 61) - 1)) (pc := 200) (dec_at lsk_240 (k := 108) rfl) rfl ?_
                      have g189 := h.1
                      have h := h.2
                      have g190 := h.1
                      have h := h.2
                      refine u_iald (pc := 201) (dec_at lsk_240 (k := 109) rfl) sx_317 g189 g190 ?_
                      refine u_ld (v := .ref 271) (pc := 202) (dec_at lsk_240 (k := 110) rfl) rfl ?_
                      refine u_ld (v := iV (-1)) (pc := 203) (dec_at lsk_240 (k := 111) rfl) rfl ?_
                      refine u_cvI (As := [iV (-1)]) (rb := 271) (st2 := [iV (u.1 317 ((u.1 271 61) - 1)), .ref 271, iV ((u.1 271 61) - 1), .ref 317]) (pc := 204) (dec_at lsk_240 (k := 112) rfl) m_12_439 (Or.inl rfl) rfl (Nat.le_of_ble_eq_true rfl) sx_271 me_253 rfl h (fun r192 u191 h => ?_)
                      refine u_ld (v := iV 0) (pc := 207) (dec_at lsk_240 (k := 113) rfl) rfl ?_
                      refine u_cvI (As := [iV (u.1 317 ((u.1 271 61) - 1)), iV r192, iV 0]) (rb := 271) (st2 := [iV ((u.1 271 61) - 1), .ref 317]) (pc := 208) (dec_at lsk_240 (k := 114) rfl) m_12_442 (Or.inl rfl) rfl (Nat.le_of_ble_eq_true rfl) sx_271 me_257 rfl h (fun r194 u193 h => ?_)
                      refine u_iast (pc := 211) (dec_at lsk_240 (k := 115) rfl) sx_317 g189 g190 (fun u195 e196 => ?_)
                      have h := h u195 e196
                      refine u_goto (pc := 212) (tgt := 232) (dec_at lsk_240 (k := 116) rfl) rfl ?_
                      exact u_rV (pc := 232) (dec_at lsk_240 (k := 125) rfl) rfl h
                    · have h := ifF e188 h
                      refine u_ld (v := iV l1) (pc := 215) (dec_at lsk_240 (k := 117) rfl) rfl ?_
                      refine u_c (x := 124) (pc := 216) (dec_at lsk_240 (k := 118) rfl) rfl (by decide) ?_
                      refine u_icF (pc := 218) (tgt := 228) (dec_at lsk_240 (k := 119) rfl) rfl (ci_ne g1 (by decide)) (fun e197 => ?_) (fun e197 => ?_)
                      · have h := ifT e197 h
                        refine u_ld (v := .ref 271) (pc := 221) (dec_at lsk_240 (k := 120) rfl) rfl ?_
                        refine u_cvV (As := []) (rb := 271) (st2 := []) (pc := 222) (dec_at lsk_240 (k := 121) rfl) m_12_445 (Or.inl rfl) rfl (Nat.le_of_ble_eq_true rfl) sx_271 me_256 rfl h (fun u198 h => ?_)
                        refine u_goto (pc := 225) (tgt := 232) (dec_at lsk_240 (k := 122) rfl) rfl ?_
                        exact u_rV (pc := 232) (dec_at lsk_240 (k := 125) rfl) rfl h
                      · have h := ifF e197 h
                        refine u_ld (v := .ref 271) (pc := 228) (dec_at lsk_240 (k := 123) rfl) rfl ?_
                        refine u_cvV (As := []) (rb := 271) (st2 := []) (pc := 229) (dec_at lsk_240 (k := 124) rfl) m_12_454 (Or.inl rfl) rfl (Nat.le_of_ble_eq_true rfl) sx_271 me_255 rfl h (fun u199 h => ?_)
                        exact u_rV (pc := 232) (dec_at lsk_240 (k := 125) rfl) rfl h
    · have h := ifF e101 h
      refine u_ld (v := iV 1) (pc := 12) (dec_at lsk_205 (k := 6) rfl) rfl ?_
      refine u_goto (pc := 13) (tgt := 17) (dec_at lsk_205 (k := 7) rfl) rfl ?_
      refine u_rZ (pc := 17) (dec_at lsk_205 (k := 9) rfl) rfl (by decide) ?_
      refine u_ifF (pc := 4) (tgt := 19) (dec_at lsk_237 (k := 2) rfl) rfl (c0_ne (by decide)) (fun e => absurd e (by decide)) (fun _ => ?_)
      refine u_ld (v := iV 1) (pc := 19) (dec_at lsk_237 (k := 9) rfl) rfl ?_
      refine u_goto (pc := 20) (tgt := 24) (dec_at lsk_237 (k := 10) rfl) rfl ?_
      refine u_rZ (pc := 24) (dec_at lsk_237 (k := 12) rfl) rfl (by decide) ?_
      refine u_ifT (pc := 12) (tgt := 67) (dec_at lsk_240 (k := 8) rfl) rfl (c0_eq (by decide)) (fun e => absurd e (by decide)) (fun _ => ?_)
      refine u_ld (v := .ref 271) (pc := 15) (dec_at lsk_240 (k := 9) rfl) rfl ?_
      refine u_cvV (As := []) (rb := 271) (st2 := []) (pc := 16) (dec_at lsk_240 (k := 10) rfl) m_12_436 (Or.inl rfl) rfl (Nat.le_of_ble_eq_true rfl) sx_271 me_241 rfl h (fun u200 h => ?_)
      refine u_ld (v := .ref 271) (pc := 19) (dec_at lsk_240 (k := 11) rfl) rfl ?_
      refine u_ld (v := .ref 271) (pc := 20) (dec_at lsk_240 (k := 12) rfl) rfl ?_
      refine u_gZ (z := 43) (pc := 21) (dec_at lsk_240 (k := 13) rfl) f_12_394 sx_271 rfl rfl ?_
      have g201 := h.1
      have h := h.2
      refine u_ifT (pc := 24) (tgt := 31) (dec_at lsk_240 (k := 14) rfl) rfl (c0_eq g201) (fun e202 => ?_) (fun e202 => ?_)
      · have h := ifT e202 h
        refine u_ld (v := .ref 271) (pc := 31) (dec_at lsk_240 (k := 17) rfl) rfl ?_
        refine u_ld (v := iV l1) (pc := 32) (dec_at lsk_240 (k := 18) rfl) rfl ?_
        refine u_c (x := 46) (pc := 33) (dec_at lsk_240 (k := 19) rfl) rfl (by decide) ?_
        refine u_icF (pc := 35) (tgt := 43) (dec_at lsk_240 (k := 20) rfl) rfl (ci_ne g1 (by decide)) (fun e203 => ?_) (fun e203 => ?_)
        · have h := ifT e203 h
          refine u_c (x := 10) (pc := 38) (dec_at lsk_240 (k := 21) rfl) rfl (by decide) ?_
          refine u_goto (pc := 40) (tgt := 58) (dec_at lsk_240 (k := 22) rfl) rfl ?_
          refine u_cvI (As := [iV 10]) (rb := 271) (st2 := [.ref 271]) (pc := 58) (dec_at lsk_240 (k := 31) rfl) m_12_439 (Or.inl rfl) rfl (Nat.le_of_ble_eq_true rfl) sx_271 me_253 rfl h (fun r205 u204 h => ?_)
          refine u_cvV (As := [iV r205]) (rb := 271) (st2 := []) (pc := 61) (dec_at lsk_240 (k := 32) rfl) m_12_448 (Or.inl rfl) rfl (Nat.le_of_ble_eq_true rfl) sx_271 me_254 rfl ?_ (fun _ h_ => h_)
          refine u_of me_254 (Nat.le_of_ble_eq_true rfl) ?_
          refine u_ld (v := .ref 271) (pc := 0) (dec_at lsk_254 (k := 0) rfl) rfl ?_
          refine u_gI (z := 61) (pc := 1) (dec_at lsk_254 (k := 1) rfl) f_12_425 sx_271 rfl rfl ?_
          refine u_ld (v := iV 1) (pc := 4) (dec_at lsk_254 (k := 2) rfl) rfl ?_
          refine u_isub (pc := 5) (dec_at lsk_254 (k := 3) rfl) ?_
          refine u_sto (lv' := [.ref 271, iV r205, iV ((u204.1 271 61) - 1)]) (pc := 6) (dec_at lsk_254 (k := 4) rfl) rfl ?_
          refine u_ld (v := .ref 271) (pc := 7) (dec_at lsk_254 (k := 5) rfl) rfl ?_
          refine u_gS (o := 46) (p := 317) (pc := 8) (dec_at lsk_254 (k := 6) rfl) f_12_148 sx_271 rfl rfl ?_
          refine u_ld (v := iV ((u204.1 271 61) - 1)) (pc := 11) (dec_at lsk_254 (k := 7) rfl) rfl ?_
          refine u_ld (v := iV r205) (pc := 12) (dec_at lsk_254 (k := 8) rfl) rfl ?_
          have g206 := h.1
          have h := h.2
          have g207 := h.1
          have h := h.2
          refine u_iast (pc := 13) (dec_at lsk_254 (k := 9) rfl) sx_317 g206 g207 (fun u208 e209 => ?_)
          have h := h u208 e209
          refine u_ld (v := .ref 271) (pc := 14) (dec_at lsk_254 (k := 10) rfl) rfl ?_
          refine u_gS (o := 47) (p := 318) (pc := 15) (dec_at lsk_254 (k := 11) rfl) f_12_151 sx_271 rfl rfl ?_
          refine u_ld (v := iV ((u204.1 271 61) - 1)) (pc := 18) (dec_at lsk_254 (k := 12) rfl) rfl ?_
          refine u_ld (v := .ref 271) (pc := 19) (dec_at lsk_254 (k := 13) rfl) rfl ?_
          refine u_gS (o := 48) (p := 319) (pc := 20) (dec_at lsk_254 (k := 14) rfl) f_12_154 sx_271 rfl rfl ?_
          refine u_ld (v := iV ((u204.1 271 61) - 1)) (pc := 23) (dec_at lsk_254 (k := 15) rfl) rfl ?_
          refine u_iald (pc := 24) (dec_at lsk_254 (k := 16) rfl) sx_319 g206 g207 ?_
          refine u_iast (pc := 25) (dec_at lsk_254 (k := 17) rfl) sx_318 g206 g207 (fun u210 e211 => ?_)
          have h := h u210 e211
          refine u_ld (v := .ref 271) (pc := 26) (dec_at lsk_254 (k := 18) rfl) rfl ?_
          refine u_gS (o := 48) (p := 319) (pc := 27) (dec_at lsk_254 (k := 19) rfl) f_12_154 sx_271 rfl rfl ?_
          refine u_ld (v := iV ((u204.1 271 61) - 1)) (pc := 30) (dec_at lsk_254 (k := 20) rfl) rfl ?_
          refine u_ld (v := iV 0) (pc := 31) (dec_at lsk_254 (k := 21) rfl) rfl ?_
          refine u_iast (pc := 32) (dec_at lsk_254 (k := 22) rfl) sx_319 g206 g207 (fun u212 e213 => ?_)
          have h := h u212 e213
          refine u_rV (pc := 33) (dec_at lsk_254 (k := 23) rfl) rfl ?_
          refine u_goto (pc := 64) (tgt := 232) (dec_at lsk_240 (k := 33) rfl) rfl ?_
          exact u_rV (pc := 232) (dec_at lsk_240 (k := 125) rfl) rfl h
        · have h := ifF e203 h
          refine u_ld (v := iV l1) (pc := 43) (dec_at lsk_240 (k := 23) rfl) rfl ?_
          refine u_c (x := 48) (pc := 44) (dec_at lsk_240 (k := 24) rfl) rfl (by decide) ?_
          refine u_icF (pc := 46) (tgt := 54) (dec_at lsk_240 (k := 25) rfl) rfl (ci_ne g1 (by decide)) (fun e214 => ?_) (fun e214 => ?_)
          · have h := ifT e214 h
            refine u_c (x := 11) (pc := 49) (dec_at lsk_240 (k := 26) rfl) rfl (by decide) ?_
            refine u_goto (pc := 51) (tgt := 58) (dec_at lsk_240 (k := 27) rfl) rfl ?_
            refine u_cvI (As := [iV 11]) (rb := 271) (st2 := [.ref 271]) (pc := 58) (dec_at lsk_240 (k := 31) rfl) m_12_439 (Or.inl rfl) rfl (Nat.le_of_ble_eq_true rfl) sx_271 me_253 rfl h (fun r216 u215 h => ?_)
            refine u_cvV (As := [iV r216]) (rb := 271) (st2 := []) (pc := 61) (dec_at lsk_240 (k := 32) rfl) m_12_448 (Or.inl rfl) rfl (Nat.le_of_ble_eq_true rfl) sx_271 me_254 rfl ?_ (fun _ h_ => h_)
            refine u_of me_254 (Nat.le_of_ble_eq_true rfl) ?_
            refine u_ld (v := .ref 271) (pc := 0) (dec_at lsk_254 (k := 0) rfl) rfl ?_
            refine u_gI (z := 61) (pc := 1) (dec_at lsk_254 (k := 1) rfl) f_12_425 sx_271 rfl rfl ?_
            refine u_ld (v := iV 1) (pc := 4) (dec_at lsk_254 (k := 2) rfl) rfl ?_
            refine u_isub (pc := 5) (dec_at lsk_254 (k := 3) rfl) ?_
            refine u_sto (lv' := [.ref 271, iV r216, iV ((u215.1 271 61) - 1)]) (pc := 6) (dec_at lsk_254 (k := 4) rfl) rfl ?_
            refine u_ld (v := .ref 271) (pc := 7) (dec_at lsk_254 (k := 5) rfl) rfl ?_
            refine u_gS (o := 46) (p := 317) (pc := 8) (dec_at lsk_254 (k := 6) rfl) f_12_148 sx_271 rfl rfl ?_
            refine u_ld (v := iV ((u215.1 271 61) - 1)) (pc := 11) (dec_at lsk_254 (k := 7) rfl) rfl ?_
            refine u_ld (v := iV r216) (pc := 12) (dec_at lsk_254 (k := 8) rfl) rfl ?_
            have g217 := h.1
            have h := h.2
            have g218 := h.1
            have h := h.2
            refine u_iast (pc := 13) (dec_at lsk_254 (k := 9) rfl) sx_317 g217 g218 (fun u219 e220 => ?_)
            have h := h u219 e220
            refine u_ld (v := .ref 271) (pc := 14) (dec_at lsk_254 (k := 10) rfl) rfl ?_
            refine u_gS (o := 47) (p := 318) (pc := 15) (dec_at lsk_254 (k := 11) rfl) f_12_151 sx_271 rfl rfl ?_
            refine u_ld (v := iV ((u215.1 271 61) - 1)) (pc := 18) (dec_at lsk_254 (k := 12) rfl) rfl ?_
            refine u_ld (v := .ref 271) (pc := 19) (dec_at lsk_254 (k := 13) rfl) rfl ?_
            refine u_gS (o := 48) (p := 319) (pc := 20) (dec_at lsk_254 (k := 14) rfl) f_12_154 sx_271 rfl rfl ?_
            refine u_ld (v := iV ((u215.1 271 61) - 1)) (pc := 23) (dec_at lsk_254 (k := 15) rfl) rfl ?_
            refine u_iald (pc := 24) (dec_at lsk_254 (k := 16) rfl) sx_319 g217 g218 ?_
            refine u_iast (pc := 25) (dec_at lsk_254 (k := 17) rfl) sx_318 g217 g218 (fun u221 e222 => ?_)
            have h := h u221 e222
            refine u_ld (v := .ref 271) (pc := 26) (dec_at lsk_254 (k := 18) rfl) rfl ?_
            refine u_gS (o := 48) (p := 319) (pc := 27) (dec_at lsk_254 (k := 19) rfl) f_12_154 sx_271 rfl rfl ?_
            refine u_ld (v := iV ((u215.1 271 61) - 1)) (pc := 30) (dec_at lsk_254 (k := 20) rfl) rfl ?_
            refine u_ld (v := iV 0) (pc := 31) (dec_at lsk_254 (k := 21) rfl) rfl ?_
            refine u_iast (pc := 32) (dec_at lsk_254 (k := 22) rfl) sx_319 g217 g218 (fun u223 e224 => ?_)
            have h := h u223 e224
            refine u_rV (pc := 33) (dec_at lsk_254 (k := 23) rfl) rfl ?_
            refine u_goto (pc := 64) (tgt := 232) (dec_at lsk_240 (k := 33) rfl) rfl ?_
            exact u_rV (pc := 232) (dec_at lsk_240 (k := 125) rfl) rfl h
          · have h := ifF e214 h
            refine u_ld (v := iV l1) (pc := 54) (dec_at lsk_240 (k := 28) rfl) rfl ?_
            refine u_c (x := 97) (pc := 55) (dec_at lsk_240 (k := 29) rfl) rfl (by decide) ?_
            refine u_isub (pc := 57) (dec_at lsk_240 (k := 30) rfl) ?_
            refine u_cvI (As := [iV (l1 - 97)]) (rb := 271) (st2 := [.ref 271]) (pc := 58) (dec_at lsk_240 (k := 31) rfl) m_12_439 (Or.inl rfl) rfl (Nat.le_of_ble_eq_true rfl) sx_271 me_253 rfl h (fun r226 u225 h => ?_)
            refine u_cvV (As := [iV r226]) (rb := 271) (st2 := []) (pc := 61) (dec_at lsk_240 (k := 32) rfl) m_12_448 (Or.inl rfl) rfl (Nat.le_of_ble_eq_true rfl) sx_271 me_254 rfl ?_ (fun _ h_ => h_)
            refine u_of me_254 (Nat.le_of_ble_eq_true rfl) ?_
            refine u_ld (v := .ref 271) (pc := 0) (dec_at lsk_254 (k := 0) rfl) rfl ?_
            refine u_gI (z := 61) (pc := 1) (dec_at lsk_254 (k := 1) rfl) f_12_425 sx_271 rfl rfl ?_
            refine u_ld (v := iV 1) (pc := 4) (dec_at lsk_254 (k := 2) rfl) rfl ?_
            refine u_isub (pc := 5) (dec_at lsk_254 (k := 3) rfl) ?_
            refine u_sto (lv' := [.ref 271, iV r226, iV ((u225.1 271 61) - 1)]) (pc := 6) (dec_at lsk_254 (k := 4) rfl) rfl ?_
            refine u_ld (v := .ref 271) (pc := 7) (dec_at lsk_254 (k := 5) rfl) rfl ?_
            refine u_gS (o := 46) (p := 317) (pc := 8) (dec_at lsk_254 (k := 6) rfl) f_12_148 sx_271 rfl rfl ?_
            refine u_ld (v := iV ((u225.1 271 61) - 1)) (pc := 11) (dec_at lsk_254 (k := 7) rfl) rfl ?_
            refine u_ld (v := iV r226) (pc := 12) (dec_at lsk_254 (k := 8) rfl) rfl ?_
            have g227 := h.1
            have h := h.2
            have g228 := h.1
            have h := h.2
            refine u_iast (pc := 13) (dec_at lsk_254 (k := 9) rfl) sx_317 g227 g228 (fun u229 e230 => ?_)
            have h := h u229 e230
            refine u_ld (v := .ref 271) (pc := 14) (dec_at lsk_254 (k := 10) rfl) rfl ?_
            refine u_gS (o := 47) (p := 318) (pc := 15) (dec_at lsk_254 (k := 11) rfl) f_12_151 sx_271 rfl rfl ?_
            refine u_ld (v := iV ((u225.1 271 61) - 1)) (pc := 18) (dec_at lsk_254 (k := 12) rfl) rfl ?_
            refine u_ld (v := .ref 271) (pc := 19) (dec_at lsk_254 (k := 13) rfl) rfl ?_
            refine u_gS (o := 48) (p := 319) (pc := 20) (dec_at lsk_254 (k := 14) rfl) f_12_154 sx_271 rfl rfl ?_
            refine u_ld (v := iV ((u225.1 271 61) - 1)) (pc := 23) (dec_at lsk_254 (k := 15) rfl) rfl ?_
            refine u_iald (pc := 24) (dec_at lsk_254 (k := 16) rfl) sx_319 g227 g228 ?_
            refine u_iast (pc := 25) (dec_at lsk_254 (k := 17) rfl) sx_318 g227 g228 (fun u231 e232 => ?_)
            have h := h u231 e232
            refine u_ld (v := .ref 271) (pc := 26) (dec_at lsk_254 (k := 18) rfl) rfl ?_
            refine u_gS (o := 48) (p := 319) (pc := 27) (dec_at lsk_254 (k := 19) rfl) f_12_154 sx_271 rfl rfl ?_
            refine u_ld (v := iV ((u225.1 271 61) - 1)) (pc := 30) (dec_at lsk_254 (k := 20) rfl) rfl ?_
            refine u_ld (v := iV 0) (pc := 31) (dec_at lsk_254 (k := 21) rfl) rfl ?_
            refine u_iast (pc := 32) (dec_at lsk_254 (k := 22) rfl) sx_319 g227 g228 (fun u233 e234 => ?_)
            have h := h u233 e234
            refine u_rV (pc := 33) (dec_at lsk_254 (k := 23) rfl) rfl ?_
            refine u_goto (pc := 64) (tgt := 232) (dec_at lsk_240 (k := 33) rfl) rfl ?_
            exact u_rV (pc := 232) (dec_at lsk_240 (k := 125) rfl) rfl h
      · have h := ifF e202 h
        refine u_ld (v := iV 0) (pc := 27) (dec_at lsk_240 (k := 15) rfl) rfl ?_
        refine u_goto (pc := 28) (tgt := 61) (dec_at lsk_240 (k := 16) rfl) rfl ?_
        refine u_cvV (As := [iV 0]) (rb := 271) (st2 := []) (pc := 61) (dec_at lsk_240 (k := 32) rfl) m_12_448 (Or.inl rfl) rfl (Nat.le_of_ble_eq_true rfl) sx_271 me_254 rfl ?_ (fun _ h_ => h_)
        refine u_of me_254 (Nat.le_of_ble_eq_true rfl) ?_
        refine u_ld (v := .ref 271) (pc := 0) (dec_at lsk_254 (k := 0) rfl) rfl ?_
        refine u_gI (z := 61) (pc := 1) (dec_at lsk_254 (k := 1) rfl) f_12_425 sx_271 rfl rfl ?_
        refine u_ld (v := iV 1) (pc := 4) (dec_at lsk_254 (k := 2) rfl) rfl ?_
        refine u_isub (pc := 5) (dec_at lsk_254 (k := 3) rfl) ?_
        refine u_sto (lv' := [.ref 271, iV 0, iV ((u200.1 271 61) - 1)]) (pc := 6) (dec_at lsk_254 (k := 4) rfl) rfl ?_
        refine u_ld (v := .ref 271) (pc := 7) (dec_at lsk_254 (k := 5) rfl) rfl ?_
        refine u_gS (o := 46) (p := 317) (pc := 8) (dec_at lsk_254 (k := 6) rfl) f_12_148 sx_271 rfl rfl ?_
        refine u_ld (v := iV ((u200.1 271 61) - 1)) (pc := 11) (dec_at lsk_254 (k := 7) rfl) rfl ?_
        refine u_ld (v := iV 0) (pc := 12) (dec_at lsk_254 (k := 8) rfl) rfl ?_
        have g235 := h.1
        have h := h.2
        have g236 := h.1
        have h := h.2
        refine u_iast (pc := 13) (dec_at lsk_254 (k := 9) rfl) sx_317 g235 g236 (fun u237 e238 => ?_)
        have h := h u237 e238
        refine u_ld (v := .ref 271) (pc := 14) (dec_at lsk_254 (k := 10) rfl) rfl ?_
        refine u_gS (o := 47) (p := 318) (pc := 15) (dec_at lsk_254 (k := 11) rfl) f_12_151 sx_271 rfl rfl ?_
        refine u_ld (v := iV ((u200.1 271 61) - 1)) (pc := 18) (dec_at lsk_254 (k := 12) rfl) rfl ?_
        refine u_ld (v := .ref 271) (pc := 19) (dec_at lsk_254 (k := 13) rfl) rfl ?_
        refine u_gS (o := 48) (p := 319) (pc := 20) (dec_at lsk_254 (k := 14) rfl) f_12_154 sx_271 rfl rfl ?_
        refine u_ld (v := iV ((u200.1 271 61) - 1)) (pc := 23) (dec_at lsk_254 (k := 15) rfl) rfl ?_
        refine u_iald (pc := 24) (dec_at lsk_254 (k := 16) rfl) sx_319 g235 g236 ?_
        refine u_iast (pc := 25) (dec_at lsk_254 (k := 17) rfl) sx_318 g235 g236 (fun u239 e240 => ?_)
        have h := h u239 e240
        refine u_ld (v := .ref 271) (pc := 26) (dec_at lsk_254 (k := 18) rfl) rfl ?_
        refine u_gS (o := 48) (p := 319) (pc := 27) (dec_at lsk_254 (k := 19) rfl) f_12_154 sx_271 rfl rfl ?_
        refine u_ld (v := iV ((u200.1 271 61) - 1)) (pc := 30) (dec_at lsk_254 (k := 20) rfl) rfl ?_
        refine u_ld (v := iV 0) (pc := 31) (dec_at lsk_254 (k := 21) rfl) rfl ?_
        refine u_iast (pc := 32) (dec_at lsk_254 (k := 22) rfl) sx_319 g235 g236 (fun u241 e242 => ?_)
        have h := h u241 e242
        refine u_rV (pc := 33) (dec_at lsk_254 (k := 23) rfl) rfl ?_
        refine u_goto (pc := 64) (tgt := 232) (dec_at lsk_240 (k := 33) rfl) rfl ?_
        exact u_rV (pc := 232) (dec_at lsk_240 (k := 125) rfl) rfl h
/-- method 241 -/
def K_241 (d pc : Nat) (lv : ev_L) (st : List Value) (u : uS) (Q : uS → Prop) : Prop := okU d 12 4 false none prog_14_method_55_code (qV Q) pc lv st u
theorem e_241 {d : Nat} {Q : uS → Prop} {u : uS} (h : (0 ≤ (u.1 271 61) - 1) ∧ (((u.1 271 61) - 1 < 17) ∧ ((rI (u.1 317 ((u.1 271 61) - 1))) ∧ (if u.1 317 ((u.1 271 61) - 1) = (-2) then (Q u) else ((rI (u.1 271 43)) ∧ (if u.1 271 43 = 0 then (K_241 d 35 [.ref 271, iV ((u.1 271 61) - 1), iV (u.1 317 ((u.1 271 61) - 1)), iV 0] [] u Q) else (Q u))))))) : cV (d + 1) 241 [.ref 271] u Q := by
  refine u_of me_241 (Nat.le_of_ble_eq_true rfl) ?_
  refine u_ld (v := .ref 271) (pc := 0) (dec_at lsk_241 (k := 0) rfl) rfl ?_
  refine u_gI (z := 61) (pc := 1) (dec_at lsk_241 (k := 1) rfl) f_12_425 sx_271 rfl rfl ?_
  refine u_ld (v := iV 1) (pc := 4) (dec_at lsk_241 (k := 2) rfl) rfl ?_
  refine u_isub (pc := 5) (dec_at lsk_241 (k := 3) rfl) ?_
  refine u_sto (lv' := [.ref 271, iV ((u.1 271 61) - 1), .retAddr 0, .retAddr 0]) (pc := 6) (dec_at lsk_241 (k := 4) rfl) rfl ?_
  refine u_ld (v := .ref 271) (pc := 7) (dec_at lsk_241 (k := 5) rfl) rfl ?_
  refine u_gS (o := 46) (p := 317) (pc := 8) (dec_at lsk_241 (k := 6) rfl) f_12_148 sx_271 rfl rfl ?_
  refine u_ld (v := iV ((u.1 271 61) - 1)) (pc := 11) (dec_at lsk_241 (k := 7) rfl) rfl ?_
  have g1 := h.1
  have h := h.2
  have g2 := h.1
  have h := h.2
  refine u_iald (pc := 12) (dec_at lsk_241 (k := 8) rfl) sx_317 g1 g2 ?_
  refine u_c (x := (-2)) (pc := 13) (dec_at lsk_241 (k := 9) rfl) rfl (by decide) ?_
  have g3 := h.1
  have h := h.2
  refine u_icT (pc := 15) (tgt := 25) (dec_at lsk_241 (k := 10) rfl) rfl (ci_eq g3 (by decide)) (fun e4 => ?_) (fun e4 => ?_)
  · have h := ifT e4 h
    exact u_rV (pc := 25) (dec_at lsk_241 (k := 14) rfl) rfl h
  · have h := ifF e4 h
    refine u_ld (v := .ref 271) (pc := 18) (dec_at lsk_241 (k := 11) rfl) rfl ?_
    refine u_gZ (z := 43) (pc := 19) (dec_at lsk_241 (k := 12) rfl) f_12_394 sx_271 rfl rfl ?_
    have g5 := h.1
    have h := h.2
    refine u_ifT (pc := 22) (tgt := 26) (dec_at lsk_241 (k := 13) rfl) rfl (c0_eq g5) (fun e6 => ?_) (fun e6 => ?_)
    · have h := ifT e6 h
      refine u_ld (v := .ref 271) (pc := 26) (dec_at lsk_241 (k := 15) rfl) rfl ?_
      refine u_gS (o := 46) (p := 317) (pc := 27) (dec_at lsk_241 (k := 16) rfl) f_12_148 sx_271 rfl rfl ?_
      refine u_ld (v := iV ((u.1 271 61) - 1)) (pc := 30) (dec_at lsk_241 (k := 17) rfl) rfl ?_
      refine u_iald (pc := 31) (dec_at lsk_241 (k := 18) rfl) sx_317 g1 g2 ?_
      refine u_sto (lv' := [.ref 271, iV ((u.1 271 61) - 1), iV (u.1 317 ((u.1 271 61) - 1)), .retAddr 0]) (pc := 32) (dec_at lsk_241 (k := 19) rfl) rfl ?_
      refine u_ld (v := iV 0) (pc := 33) (dec_at lsk_241 (k := 20) rfl) rfl ?_
      refine u_sto (lv' := [.ref 271, iV ((u.1 271 61) - 1), iV (u.1 317 ((u.1 271 61) - 1)), iV 0]) (pc := 34) (dec_at lsk_241 (k := 21) rfl) rfl ?_
      exact h
    · have h := ifF e6 h
      exact u_rV (pc := 25) (dec_at lsk_241 (k := 14) rfl) rfl h
theorem k_241_35 {d : Nat} {Q : uS → Prop} {u : uS} {l1 l2 l3 : Int} (h : (0 ≤ l1) ∧ ((l1 < 17) ∧ ((rI (u.1 318 l1)) ∧ ((rI l3) ∧ ((rI ((u.1 318 l1).tmod 2)) ∧ (if l3 < (u.1 318 l1).tmod 2 then (cI d 242 [.ref 271, iV l2] u (fun r8 u7 => K_241 d 35 [.ref 271, iV l1, iV r8, iV (l3 + 1)] [] u7 Q)) else ((rI (u.1 316 l1)) ∧ (if u.1 316 l1 = (-2) then (∀ u11 : uS, u11 = wr u 316 l1 l2 → (∀ u13 : uS, u13 = wr u11 317 l1 (-2) → (Q u13))) else (cI d 244 [.ref 271, iV (u.1 316 l1), iV l2] u (fun r16 u15 => ∀ u17 : uS, u17 = wr u15 316 l1 r16 → (∀ u19 : uS, u19 = wr u17 317 l1 (-2) → (Q u19)))))))))))) : K_241 d 35 [.ref 271, iV l1, iV l2, iV l3] [] u Q := by
  unfold K_241
  refine u_ld (v := iV l3) (pc := 35) (dec_at lsk_241 (k := 22) rfl) rfl ?_
  refine u_ld (v := .ref 271) (pc := 36) (dec_at lsk_241 (k := 23) rfl) rfl ?_
  refine u_gS (o := 47) (p := 318) (pc := 37) (dec_at lsk_241 (k := 24) rfl) f_12_151 sx_271 rfl rfl ?_
  refine u_ld (v := iV l1) (pc := 40) (dec_at lsk_241 (k := 25) rfl) rfl ?_
  have g1 := h.1
  have h := h.2
  have g2 := h.1
  have h := h.2
  refine u_iald (pc := 41) (dec_at lsk_241 (k := 26) rfl) sx_318 g1 g2 ?_
  refine u_ld (v := iV 2) (pc := 42) (dec_at lsk_241 (k := 27) rfl) rfl ?_
  have g3 := h.1
  have h := h.2
  refine u_irem (pc := 43) (dec_at lsk_241 (k := 28) rfl) g3 (by decide) (by decide) ?_
  have g4 := h.1
  have h := h.2
  have g5 := h.1
  have h := h.2
  refine u_icF (pc := 44) (tgt := 59) (dec_at lsk_241 (k := 29) rfl) rfl (ci_ge g4 g5) (fun e6 => ?_) (fun e6 => ?_)
  · have h := ifT e6 h
    refine u_ld (v := .ref 271) (pc := 47) (dec_at lsk_241 (k := 30) rfl) rfl ?_
    refine u_ld (v := iV l2) (pc := 48) (dec_at lsk_241 (k := 31) rfl) rfl ?_
    refine u_cvI (As := [iV l2]) (rb := 271) (st2 := []) (pc := 49) (dec_at lsk_241 (k := 32) rfl) m_12_428 (Or.inl rfl) rfl (Nat.le_of_ble_eq_true rfl) sx_271 me_242 rfl h (fun r8 u7 h => ?_)
    refine u_sto (lv' := [.ref 271, iV l1, iV r8, iV l3]) (pc := 52) (dec_at lsk_241 (k := 33) rfl) rfl ?_
    refine u_inc (lv' := [.ref 271, iV l1, iV r8, iV (l3 + 1)]) (pc := 53) (dec_at lsk_241 (k := 34) rfl) rfl (by decide) rfl ?_
    refine u_goto (pc := 56) (tgt := 35) (dec_at lsk_241 (k := 35) rfl) rfl ?_
    exact h
  · have h := ifF e6 h
    refine u_ld (v := .ref 271) (pc := 59) (dec_at lsk_241 (k := 36) rfl) rfl ?_
    refine u_gS (o := 45) (p := 316) (pc := 60) (dec_at lsk_241 (k := 37) rfl) f_12_145 sx_271 rfl rfl ?_
    refine u_ld (v := iV l1) (pc := 63) (dec_at lsk_241 (k := 38) rfl) rfl ?_
    refine u_ld (v := .ref 271) (pc := 64) (dec_at lsk_241 (k := 39) rfl) rfl ?_
    refine u_gS (o := 45) (p := 316) (pc := 65) (dec_at lsk_241 (k := 40) rfl) f_12_145 sx_271 rfl rfl ?_
    refine u_ld (v := iV l1) (pc := 68) (dec_at lsk_241 (k := 41) rfl) rfl ?_
    refine u_iald (pc := 69) (dec_at lsk_241 (k := 42) rfl) sx_316 g1 g2 ?_
    refine u_c (x := (-2)) (pc := 70) (dec_at lsk_241 (k := 43) rfl) rfl (by decide) ?_
    have g9 := h.1
    have h := h.2
    refine u_icF (pc := 72) (tgt := 79) (dec_at lsk_241 (k := 44) rfl) rfl (ci_ne g9 (by decide)) (fun e10 => ?_) (fun e10 => ?_)
    · have h := ifT e10 h
      refine u_ld (v := iV l2) (pc := 75) (dec_at lsk_241 (k := 45) rfl) rfl ?_
      refine u_goto (pc := 76) (tgt := 90) (dec_at lsk_241 (k := 46) rfl) rfl ?_
      refine u_iast (pc := 90) (dec_at lsk_241 (k := 54) rfl) sx_316 g1 g2 (fun u11 e12 => ?_)
      have h := h u11 e12
      refine u_ld (v := .ref 271) (pc := 91) (dec_at lsk_241 (k := 55) rfl) rfl ?_
      refine u_gS (o := 46) (p := 317) (pc := 92) (dec_at lsk_241 (k := 56) rfl) f_12_148 sx_271 rfl rfl ?_
      refine u_ld (v := iV l1) (pc := 95) (dec_at lsk_241 (k := 57) rfl) rfl ?_
      refine u_c (x := (-2)) (pc := 96) (dec_at lsk_241 (k := 58) rfl) rfl (by decide) ?_
      refine u_iast (pc := 98) (dec_at lsk_241 (k := 59) rfl) sx_317 g1 g2 (fun u13 e14 => ?_)
      have h := h u13 e14
      exact u_rV (pc := 99) (dec_at lsk_241 (k := 60) rfl) rfl h
    · have h := ifF e10 h
      refine u_ld (v := .ref 271) (pc := 79) (dec_at lsk_241 (k := 47) rfl) rfl ?_
      refine u_ld (v := .ref 271) (pc := 80) (dec_at lsk_241 (k := 48) rfl) rfl ?_
      refine u_gS (o := 45) (p := 316) (pc := 81) (dec_at lsk_241 (k := 49) rfl) f_12_145 sx_271 rfl rfl ?_
      refine u_ld (v := iV l1) (pc := 84) (dec_at lsk_241 (k := 50) rfl) rfl ?_
      refine u_iald (pc := 85) (dec_at lsk_241 (k := 51) rfl) sx_316 g1 g2 ?_
      refine u_ld (v := iV l2) (pc := 86) (dec_at lsk_241 (k := 52) rfl) rfl ?_
      refine u_cvI (As := [iV (u.1 316 l1), iV l2]) (rb := 271) (st2 := [iV l1, .ref 316]) (pc := 87) (dec_at lsk_241 (k := 53) rfl) m_12_432 (Or.inl rfl) rfl (Nat.le_of_ble_eq_true rfl) sx_271 me_244 rfl h (fun r16 u15 h => ?_)
      refine u_iast (pc := 90) (dec_at lsk_241 (k := 54) rfl) sx_316 g1 g2 (fun u17 e18 => ?_)
      have h := h u17 e18
      refine u_ld (v := .ref 271) (pc := 91) (dec_at lsk_241 (k := 55) rfl) rfl ?_
      refine u_gS (o := 46) (p := 317) (pc := 92) (dec_at lsk_241 (k := 56) rfl) f_12_148 sx_271 rfl rfl ?_
      refine u_ld (v := iV l1) (pc := 95) (dec_at lsk_241 (k := 57) rfl) rfl ?_
      refine u_c (x := (-2)) (pc := 96) (dec_at lsk_241 (k := 58) rfl) rfl (by decide) ?_
      refine u_iast (pc := 98) (dec_at lsk_241 (k := 59) rfl) sx_317 g1 g2 (fun u19 e20 => ?_)
      have h := h u19 e20
      exact u_rV (pc := 99) (dec_at lsk_241 (k := 60) rfl) rfl h
/-- method 242 -/
def K_242 (d pc : Nat) (lv : ev_L) (st : List Value) (u : uS) (Q : Int → uS → Prop) : Prop := okU d 12 5 false (some .int) prog_14_method_46_code (qI Q) pc lv st u
theorem e_242 {d : Nat} {Q : Int → uS → Prop} {u : uS} {l1 : Int} (h : ∀ u1 : uS, u1 = wr u 271 42 ((u.1 271 42) + 1) → ((0 ≤ l1) ∧ ((l1 < 100) ∧ ((0 ≤ (u1.1 271 42) - 1) ∧ (((u1.1 271 42) - 1 < 100) ∧ (∀ u7 : uS, u7 = wr u1 301 ((u1.1 271 42) - 1) (u1.1 301 l1) → (K_242 (d + 1) 19 [.ref 271, iV l1, iV ((u1.1 271 42) - 1), iV 0, .retAddr 0] [] u7 Q))))))) : cI (d + 2) 242 [.ref 271, iV l1] u Q := by
  refine u_of me_242 (Nat.le_of_ble_eq_true rfl) ?_
  refine u_ld (v := .ref 271) (pc := 0) (dec_at lsk_242 (k := 0) rfl) rfl ?_
  refine u_cvI (As := []) (rb := 271) (st2 := []) (pc := 1) (dec_at lsk_242 (k := 1) rfl) m_12_378 (Or.inl rfl) rfl (Nat.le_of_ble_eq_true rfl) sx_271 me_243 rfl ?_ (fun _ _ h_ => h_)
  refine u_of me_243 (Nat.le_of_ble_eq_true rfl) ?_
  refine u_ld (v := .ref 271) (pc := 0) (dec_at lsk_243 (k := 0) rfl) rfl ?_
  refine u_ld (v := .ref 271) (pc := 1) (dec_at lsk_243 (k := 1) rfl) rfl ?_
  refine u_gI (z := 42) (pc := 2) (dec_at lsk_243 (k := 2) rfl) f_12_375 sx_271 rfl rfl ?_
  refine u_ld (v := iV 1) (pc := 5) (dec_at lsk_243 (k := 3) rfl) rfl ?_
  refine u_iadd (pc := 6) (dec_at lsk_243 (k := 4) rfl) ?_
  refine u_pI (z := 42) (pc := 7) (dec_at lsk_243 (k := 5) rfl) f_12_375 sx_271 rfl rfl rfl rfl (fun u1 e2 => ?_)
  have h := h u1 e2
  refine u_ld (v := .ref 271) (pc := 10) (dec_at lsk_243 (k := 6) rfl) rfl ?_
  refine u_gI (z := 42) (pc := 11) (dec_at lsk_243 (k := 7) rfl) f_12_375 sx_271 rfl rfl ?_
  refine u_ld (v := iV 1) (pc := 14) (dec_at lsk_243 (k := 8) rfl) rfl ?_
  refine u_isub (pc := 15) (dec_at lsk_243 (k := 9) rfl) ?_
  refine u_rI (pc := 16) (dec_at lsk_243 (k := 10) rfl) rfl ?_
  refine u_sto (lv' := [.ref 271, iV l1, iV ((u1.1 271 42) - 1), .retAddr 0, .retAddr 0]) (pc := 4) (dec_at lsk_242 (k := 2) rfl) rfl ?_
  refine u_ld (v := .ref 271) (pc := 5) (dec_at lsk_242 (k := 3) rfl) rfl ?_
  refine u_gS (o := 30) (p := 301) (pc := 6) (dec_at lsk_242 (k := 4) rfl) f_12_99 sx_271 rfl rfl ?_
  refine u_ld (v := iV ((u1.1 271 42) - 1)) (pc := 9) (dec_at lsk_242 (k := 5) rfl) rfl ?_
  refine u_ld (v := .ref 271) (pc := 10) (dec_at lsk_242 (k := 6) rfl) rfl ?_
  refine u_gS (o := 30) (p := 301) (pc := 11) (dec_at lsk_242 (k := 7) rfl) f_12_99 sx_271 rfl rfl ?_
  refine u_ld (v := iV l1) (pc := 14) (dec_at lsk_242 (k := 8) rfl) rfl ?_
  have g3 := h.1
  have h := h.2
  have g4 := h.1
  have h := h.2
  refine u_iald (pc := 15) (dec_at lsk_242 (k := 9) rfl) sx_301 g3 g4 ?_
  have g5 := h.1
  have h := h.2
  have g6 := h.1
  have h := h.2
  refine u_iast (pc := 16) (dec_at lsk_242 (k := 10) rfl) sx_301 g5 g6 (fun u7 e8 => ?_)
  have h := h u7 e8
  refine u_ld (v := iV 0) (pc := 17) (dec_at lsk_242 (k := 11) rfl) rfl ?_
  refine u_sto (lv' := [.ref 271, iV l1, iV ((u1.1 271 42) - 1), iV 0, .retAddr 0]) (pc := 18) (dec_at lsk_242 (k := 12) rfl) rfl ?_
  exact h
theorem k_242_19 {d : Nat} {Q : Int → uS → Prop} {u : uS} {l1 l2 l3 : Int} (h : (0 ≤ l1) ∧ ((l1 < 100) ∧ ((rI l3) ∧ ((rI (u.1 301 l1)) ∧ (if l3 < u.1 301 l1 then ((0 ≤ (40 * l1) + l3) ∧ (((40 * l1) + l3 < 4000) ∧ ((rI (u.1 303 ((40 * l1) + l3))) ∧ (if u.1 303 ((40 * l1) + l3) = 0 then ((0 ≤ (40 * l2) + l3) ∧ (((40 * l2) + l3 < 4000) ∧ (∀ u12 : uS, u12 = wr u 303 ((40 * l2) + l3) 1 → (K_242 (d + 1) 62 [.ref 271, iV l1, iV l2, iV l3, iV 0] [] u12 Q)))) else ((0 ≤ (40 * l2) + l3) ∧ (((40 * l2) + l3 < 4000) ∧ (∀ u16 : uS, u16 = wr u 303 ((40 * l2) + l3) 0 → (K_242 (d + 1) 62 [.ref 271, iV l1, iV l2, iV l3, iV 0] [] u16 Q)))))))) else (Q l2 u)))))) : K_242 (d + 1) 19 [.ref 271, iV l1, iV l2, iV l3, .retAddr 0] [] u Q := by
  unfold K_242
  refine u_ld (v := iV l3) (pc := 19) (dec_at lsk_242 (k := 13) rfl) rfl ?_
  refine u_ld (v := .ref 271) (pc := 20) (dec_at lsk_242 (k := 14) rfl) rfl ?_
  refine u_gS (o := 30) (p := 301) (pc := 21) (dec_at lsk_242 (k := 15) rfl) f_12_99 sx_271 rfl rfl ?_
  refine u_ld (v := iV l1) (pc := 24) (dec_at lsk_242 (k := 16) rfl) rfl ?_
  have g1 := h.1
  have h := h.2
  have g2 := h.1
  have h := h.2
  refine u_iald (pc := 25) (dec_at lsk_242 (k := 17) rfl) sx_301 g1 g2 ?_
  have g3 := h.1
  have h := h.2
  have g4 := h.1
  have h := h.2
  refine u_icF (pc := 26) (tgt := 117) (dec_at lsk_242 (k := 18) rfl) rfl (ci_ge g3 g4) (fun e5 => ?_) (fun e5 => ?_)
  · have h := ifT e5 h
    refine u_ld (v := .ref 271) (pc := 29) (dec_at lsk_242 (k := 19) rfl) rfl ?_
    refine u_gS (o := 32) (p := 303) (pc := 30) (dec_at lsk_242 (k := 20) rfl) f_12_106 sx_271 rfl rfl ?_
    refine u_c (x := 40) (pc := 33) (dec_at lsk_242 (k := 21) rfl) rfl (by decide) ?_
    refine u_ld (v := iV l2) (pc := 35) (dec_at lsk_242 (k := 22) rfl) rfl ?_
    refine u_imul (pc := 36) (dec_at lsk_242 (k := 23) rfl) ?_
    refine u_ld (v := iV l3) (pc := 37) (dec_at lsk_242 (k := 24) rfl) rfl ?_
    refine u_iadd (pc := 38) (dec_at lsk_242 (k := 25) rfl) ?_
    refine u_ld (v := .ref 271) (pc := 39) (dec_at lsk_242 (k := 26) rfl) rfl ?_
    refine u_gS (o := 32) (p := 303) (pc := 40) (dec_at lsk_242 (k := 27) rfl) f_12_106 sx_271 rfl rfl ?_
    refine u_c (x := 40) (pc := 43) (dec_at lsk_242 (k := 28) rfl) rfl (by decide) ?_
    refine u_ld (v := iV l1) (pc := 45) (dec_at lsk_242 (k := 29) rfl) rfl ?_
    refine u_imul (pc := 46) (dec_at lsk_242 (k := 30) rfl) ?_
    refine u_ld (v := iV l3) (pc := 47) (dec_at lsk_242 (k := 31) rfl) rfl ?_
    refine u_iadd (pc := 48) (dec_at lsk_242 (k := 32) rfl) ?_
    have g6 := h.1
    have h := h.2
    have g7 := h.1
    have h := h.2
    refine u_zald (pc := 49) (dec_at lsk_242 (k := 33) rfl) sx_303 g6 g7 ?_
    have g8 := h.1
    have h := h.2
    refine u_ifF (pc := 50) (tgt := 57) (dec_at lsk_242 (k := 34) rfl) rfl (c0_ne g8) (fun e9 => ?_) (fun e9 => ?_)
    · have h := ifT e9 h
      refine u_ld (v := iV 1) (pc := 53) (dec_at lsk_242 (k := 35) rfl) rfl ?_
      refine u_goto (pc := 54) (tgt := 58) (dec_at lsk_242 (k := 36) rfl) rfl ?_
      have g10 := h.1
      have h := h.2
      have g11 := h.1
      have h := h.2
      refine u_zast (pc := 58) (dec_at lsk_242 (k := 38) rfl) sx_303 g10 g11 (by decide) (fun u12 e13 => ?_)
      have h := h u12 e13
      refine u_ld (v := iV 0) (pc := 59) (dec_at lsk_242 (k := 39) rfl) rfl ?_
      refine u_sto (lv' := [.ref 271, iV l1, iV l2, iV l3, iV 0]) (pc := 60) (dec_at lsk_242 (k := 40) rfl) rfl ?_
      exact h
    · have h := ifF e9 h
      refine u_ld (v := iV 0) (pc := 57) (dec_at lsk_242 (k := 37) rfl) rfl ?_
      have g14 := h.1
      have h := h.2
      have g15 := h.1
      have h := h.2
      refine u_zast (pc := 58) (dec_at lsk_242 (k := 38) rfl) sx_303 g14 g15 (by decide) (fun u16 e17 => ?_)
      have h := h u16 e17
      refine u_ld (v := iV 0) (pc := 59) (dec_at lsk_242 (k := 39) rfl) rfl ?_
      refine u_sto (lv' := [.ref 271, iV l1, iV l2, iV l3, iV 0]) (pc := 60) (dec_at lsk_242 (k := 40) rfl) rfl ?_
      exact h
  · have h := ifF e5 h
    refine u_ld (v := iV l2) (pc := 117) (dec_at lsk_242 (k := 72) rfl) rfl ?_
    exact u_rI (pc := 118) (dec_at lsk_242 (k := 73) rfl) rfl h
theorem k_242_62 {d : Nat} {Q : Int → uS → Prop} {u : uS} {l1 l2 l3 l4 : Int} (h : (rI l4) ∧ (if l4 < 10 then ((0 ≤ ((400 * l1) + (10 * l3)) + l4) ∧ ((((400 * l1) + (10 * l3)) + l4 < 40000) ∧ ((0 ≤ ((400 * l2) + (10 * l3)) + l4) ∧ ((((400 * l2) + (10 * l3)) + l4 < 40000) ∧ (∀ u7 : uS, u7 = wr u 302 (((400 * l2) + (10 * l3)) + l4) (u.1 302 (((400 * l1) + (10 * l3)) + l4)) → (K_242 (d + 1) 62 [.ref 271, iV l1, iV l2, iV l3, iV (l4 + 1)] [] u7 Q)))))) else (K_242 (d + 1) 19 [.ref 271, iV l1, iV l2, iV (l3 + 1), .retAddr 0] [] u Q))) : K_242 (d + 1) 62 [.ref 271, iV l1, iV l2, iV l3, iV l4] [] u Q := by
  unfold K_242
  refine u_ld (v := iV l4) (pc := 62) (dec_at lsk_242 (k := 41) rfl) rfl ?_
  refine u_c (x := 10) (pc := 64) (dec_at lsk_242 (k := 42) rfl) rfl (by decide) ?_
  have g1 := h.1
  have h := h.2
  refine u_icF (pc := 66) (tgt := 111) (dec_at lsk_242 (k := 43) rfl) rfl (ci_ge g1 (by decide)) (fun e2 => ?_) (fun e2 => ?_)
  · have h := ifT e2 h
    refine u_ld (v := .ref 271) (pc := 69) (dec_at lsk_242 (k := 44) rfl) rfl ?_
    refine u_gS (o := 31) (p := 302) (pc := 70) (dec_at lsk_242 (k := 45) rfl) f_12_103 sx_271 rfl rfl ?_
    refine u_c (x := 400) (pc := 73) (dec_at lsk_242 (k := 46) rfl) rfl (by decide) ?_
    refine u_ld (v := iV l2) (pc := 76) (dec_at lsk_242 (k := 47) rfl) rfl ?_
    refine u_imul (pc := 77) (dec_at lsk_242 (k := 48) rfl) ?_
    refine u_c (x := 10) (pc := 78) (dec_at lsk_242 (k := 49) rfl) rfl (by decide) ?_
    refine u_ld (v := iV l3) (pc := 80) (dec_at lsk_242 (k := 50) rfl) rfl ?_
    refine u_imul (pc := 81) (dec_at lsk_242 (k := 51) rfl) ?_
    refine u_iadd (pc := 82) (dec_at lsk_242 (k := 52) rfl) ?_
    refine u_ld (v := iV l4) (pc := 83) (dec_at lsk_242 (k := 53) rfl) rfl ?_
    refine u_iadd (pc := 85) (dec_at lsk_242 (k := 54) rfl) ?_
    refine u_ld (v := .ref 271) (pc := 86) (dec_at lsk_242 (k := 55) rfl) rfl ?_
    refine u_gS (o := 31) (p := 302) (pc := 87) (dec_at lsk_242 (k := 56) rfl) f_12_103 sx_271 rfl rfl ?_
    refine u_c (x := 400) (pc := 90) (dec_at lsk_242 (k := 57) rfl) rfl (by decide) ?_
    refine u_ld (v := iV l1) (pc := 93) (dec_at lsk_242 (k := 58) rfl) rfl ?_
    refine u_imul (pc := 94) (dec_at lsk_242 (k := 59) rfl) ?_
    refine u_c (x := 10) (pc := 95) (dec_at lsk_242 (k := 60) rfl) rfl (by decide) ?_
    refine u_ld (v := iV l3) (pc := 97) (dec_at lsk_242 (k := 61) rfl) rfl ?_
    refine u_imul (pc := 98) (dec_at lsk_242 (k := 62) rfl) ?_
    refine u_iadd (pc := 99) (dec_at lsk_242 (k := 63) rfl) ?_
    refine u_ld (v := iV l4) (pc := 100) (dec_at lsk_242 (k := 64) rfl) rfl ?_
    refine u_iadd (pc := 102) (dec_at lsk_242 (k := 65) rfl) ?_
    have g3 := h.1
    have h := h.2
    have g4 := h.1
    have h := h.2
    refine u_iald (pc := 103) (dec_at lsk_242 (k := 66) rfl) sx_302 g3 g4 ?_
    have g5 := h.1
    have h := h.2
    have g6 := h.1
    have h := h.2
    refine u_iast (pc := 104) (dec_at lsk_242 (k := 67) rfl) sx_302 g5 g6 (fun u7 e8 => ?_)
    have h := h u7 e8
    refine u_inc (lv' := [.ref 271, iV l1, iV l2, iV l3, iV (l4 + 1)]) (pc := 105) (dec_at lsk_242 (k := 68) rfl) rfl (by decide) rfl ?_
    refine u_goto (pc := 108) (tgt := 62) (dec_at lsk_242 (k := 69) rfl) rfl ?_
    exact h
  · have h := ifF e2 h
    refine u_inc (lv' := [.ref 271, iV l1, iV l2, iV (l3 + 1), iV l4]) (pc := 111) (dec_at lsk_242 (k := 70) rfl) rfl (by decide) rfl ?_
    refine u_goto (pc := 114) (tgt := 19) (dec_at lsk_242 (k := 71) rfl) rfl ?_
    exact u_weak (sbK (sbK (sbK (sbK (sbD sb0))))) h
/-- method 244 -/
def K_244 (d pc : Nat) (lv : ev_L) (st : List Value) (u : uS) (Q : Int → uS → Prop) : Prop := okU d 12 9 false (some .int) prog_14_method_44_code (qI Q) pc lv st u
theorem e_244 {d : Nat} {Q : Int → uS → Prop} {u : uS} {l1 l2 : Int} (h : cV (d + 1) 245 [.ref 271] u (fun u1 => (0 ≤ 40 * l1) ∧ ((40 * l1 < 4000) ∧ ((rI (u1.1 303 (40 * l1))) ∧ (if u1.1 303 (40 * l1) = 0 then (cI (d + 1) 246 [.ref 271, iV 0, lV 0] u1 (fun r7 u6 => K_244 (d + 1) 29 [.ref 271, iV l1, iV l2, iV 0, .retAddr 0, .retAddr 0, .retAddr 0, .retAddr 0, .retAddr 0] [] u6 Q)) else (cI (d + 1) 246 [.ref 271, iV 0, lV 1] u1 (fun r9 u8 => K_244 (d + 1) 29 [.ref 271, iV l1, iV l2, iV 0, .retAddr 0, .retAddr 0, .retAddr 0, .retAddr 0, .retAddr 0] [] u8 Q))))))) : cI (d + 2) 244 [.ref 271, iV l1, iV l2] u Q := by
  refine u_of me_244 (Nat.le_of_ble_eq_true rfl) ?_
  refine u_ld (v := .ref 271) (pc := 0) (dec_at lsk_244 (k := 0) rfl) rfl ?_
  refine u_cvV (As := []) (rb := 271) (st2 := []) (pc := 1) (dec_at lsk_244 (k := 1) rfl) m_12_381 (Or.inl rfl) rfl (Nat.le_of_ble_eq_true rfl) sx_271 me_245 rfl h (fun u1 h => ?_)
  refine u_ld (v := .ref 271) (pc := 4) (dec_at lsk_244 (k := 2) rfl) rfl ?_
  refine u_ld (v := iV 0) (pc := 5) (dec_at lsk_244 (k := 3) rfl) rfl ?_
  refine u_ld (v := .ref 271) (pc := 6) (dec_at lsk_244 (k := 4) rfl) rfl ?_
  refine u_gS (o := 32) (p := 303) (pc := 7) (dec_at lsk_244 (k := 5) rfl) f_12_106 sx_271 rfl rfl ?_
  refine u_c (x := 40) (pc := 10) (dec_at lsk_244 (k := 6) rfl) rfl (by decide) ?_
  refine u_ld (v := iV l1) (pc := 12) (dec_at lsk_244 (k := 7) rfl) rfl ?_
  refine u_imul (pc := 13) (dec_at lsk_244 (k := 8) rfl) ?_
  have g2 := h.1
  have h := h.2
  have g3 := h.1
  have h := h.2
  refine u_zald (pc := 14) (dec_at lsk_244 (k := 9) rfl) sx_303 g2 g3 ?_
  have g4 := h.1
  have h := h.2
  refine u_ifT (pc := 15) (tgt := 22) (dec_at lsk_244 (k := 10) rfl) rfl (c0_eq g4) (fun e5 => ?_) (fun e5 => ?_)
  · have h := ifT e5 h
    refine u_cl (x := 0) (pc := 22) (dec_at lsk_244 (k := 13) rfl) rfl (by decide) ?_
    refine u_cvI (As := [iV 0, lV 0]) (rb := 271) (st2 := []) (pc := 23) (dec_at lsk_244 (k := 14) rfl) m_12_397 (Or.inl rfl) rfl (Nat.le_of_ble_eq_true rfl) sx_271 me_246 rfl h (fun r7 u6 h => ?_)
    refine u_st (st' := []) (pc := 26) (dec_at lsk_244 (k := 15) rfl) rfl ?_
    refine u_ld (v := iV 0) (pc := 27) (dec_at lsk_244 (k := 16) rfl) rfl ?_
    refine u_sto (lv' := [.ref 271, iV l1, iV l2, iV 0, .retAddr 0, .retAddr 0, .retAddr 0, .retAddr 0, .retAddr 0]) (pc := 28) (dec_at lsk_244 (k := 17) rfl) rfl ?_
    exact h
  · have h := ifF e5 h
    refine u_cl (x := 1) (pc := 18) (dec_at lsk_244 (k := 11) rfl) rfl (by decide) ?_
    refine u_goto (pc := 19) (tgt := 23) (dec_at lsk_244 (k := 12) rfl) rfl ?_
    refine u_cvI (As := [iV 0, lV 1]) (rb := 271) (st2 := []) (pc := 23) (dec_at lsk_244 (k := 14) rfl) m_12_397 (Or.inl rfl) rfl (Nat.le_of_ble_eq_true rfl) sx_271 me_246 rfl h (fun r9 u8 h => ?_)
    refine u_st (st' := []) (pc := 26) (dec_at lsk_244 (k := 15) rfl) rfl ?_
    refine u_ld (v := iV 0) (pc := 27) (dec_at lsk_244 (k := 16) rfl) rfl ?_
    refine u_sto (lv' := [.ref 271, iV l1, iV l2, iV 0, .retAddr 0, .retAddr 0, .retAddr 0, .retAddr 0, .retAddr 0]) (pc := 28) (dec_at lsk_244 (k := 17) rfl) rfl ?_
    exact h
theorem k_244_29 {d : Nat} {Q : Int → uS → Prop} {u : uS} {l1 l2 l3 : Int} (h : (rI l3) ∧ ((rI (u.1 271 44)) ∧ (if l3 < u.1 271 44 then ((rI (u.1 271 43)) ∧ (if u.1 271 43 = 0 then ((0 ≤ l3) ∧ ((l3 < 2001) ∧ (cI (d + 1) 247 [.ref 271, iV l2, lV (u.1 305 l3)] u (fun r9 u8 => (r9 = 0 ∨ r9 = 1) ∧ (∀ u11 : uS, u11 = wr u8 307 l3 r9 → (K_244 (d + 1) 76 [.ref 271, iV l1, iV l2, iV l3, iV (u.1 304 l3), lV (u.1 305 l3), .retAddr 0, iV 0, .retAddr 0] [] u11 Q)))))) else (∀ u13 : uS, u13 = wr u 271 42 ((u.1 271 42) + 1) → (cV (d + 1) 249 [.ref 271, iV ((u13.1 271 42) - 1)] u13 (fun u15 => Q ((u13.1 271 42) - 1) u15))))) else (∀ u16 : uS, u16 = wr u 271 42 ((u.1 271 42) + 1) → (cV (d + 1) 249 [.ref 271, iV ((u16.1 271 42) - 1)] u16 (fun u18 => Q ((u16.1 271 42) - 1) u18)))))) : K_244 (d + 1) 29 [.ref 271, iV l1, iV l2, iV l3, .retAddr 0, .retAddr 0, .retAddr 0, .retAddr 0, .retAddr 0] [] u Q := by
  unfold K_244
  refine u_ld (v := iV l3) (pc := 29) (dec_at lsk_244 (k := 18) rfl) rfl ?_
  refine u_ld (v := .ref 271) (pc := 30) (dec_at lsk_244 (k := 19) rfl) rfl ?_
  refine u_gI (z := 44) (pc := 31) (dec_at lsk_244 (k := 20) rfl) f_12_384 sx_271 rfl rfl ?_
  have g1 := h.1
  have h := h.2
  have g2 := h.1
  have h := h.2
  refine u_icF (pc := 34) (tgt := 164) (dec_at lsk_244 (k := 21) rfl) rfl (ci_ge g1 g2) (fun e3 => ?_) (fun e3 => ?_)
  · have h := ifT e3 h
    refine u_ld (v := .ref 271) (pc := 37) (dec_at lsk_244 (k := 22) rfl) rfl ?_
    refine u_gZ (z := 43) (pc := 38) (dec_at lsk_244 (k := 23) rfl) f_12_394 sx_271 rfl rfl ?_
    have g4 := h.1
    have h := h.2
    refine u_ifF (pc := 41) (tgt := 164) (dec_at lsk_244 (k := 24) rfl) rfl (c0_ne g4) (fun e5 => ?_) (fun e5 => ?_)
    · have h := ifT e5 h
      refine u_ld (v := .ref 271) (pc := 44) (dec_at lsk_244 (k := 25) rfl) rfl ?_
      refine u_gS (o := 33) (p := 304) (pc := 45) (dec_at lsk_244 (k := 26) rfl) f_12_109 sx_271 rfl rfl ?_
      refine u_ld (v := iV l3) (pc := 48) (dec_at lsk_244 (k := 27) rfl) rfl ?_
      have g6 := h.1
      have h := h.2
      have g7 := h.1
      have h := h.2
      refine u_iald (pc := 49) (dec_at lsk_244 (k := 28) rfl) sx_304 g6 g7 ?_
      refine u_sto (lv' := [.ref 271, iV l1, iV l2, iV l3, iV (u.1 304 l3), .retAddr 0, .retAddr 0, .retAddr 0, .retAddr 0]) (pc := 50) (dec_at lsk_244 (k := 29) rfl) rfl ?_
      refine u_ld (v := .ref 271) (pc := 52) (dec_at lsk_244 (k := 30) rfl) rfl ?_
      refine u_gS (o := 34) (p := 305) (pc := 53) (dec_at lsk_244 (k := 31) rfl) f_12_112 sx_271 rfl rfl ?_
      refine u_ld (v := iV l3) (pc := 56) (dec_at lsk_244 (k := 32) rfl) rfl ?_
      refine u_lald (pc := 57) (dec_at lsk_244 (k := 33) rfl) sx_305 g6 g7 ?_
      refine u_sto (lv' := [.ref 271, iV l1, iV l2, iV l3, iV (u.1 304 l3), lV (u.1 305 l3), .retAddr 0, .retAddr 0, .retAddr 0]) (pc := 58) (dec_at lsk_244 (k := 34) rfl) rfl ?_
      refine u_ld (v := .ref 271) (pc := 60) (dec_at lsk_244 (k := 35) rfl) rfl ?_
      refine u_gS (o := 36) (p := 307) (pc := 61) (dec_at lsk_244 (k := 36) rfl) f_12_118 sx_271 rfl rfl ?_
      refine u_ld (v := iV l3) (pc := 64) (dec_at lsk_244 (k := 37) rfl) rfl ?_
      refine u_ld (v := .ref 271) (pc := 65) (dec_at lsk_244 (k := 38) rfl) rfl ?_
      refine u_ld (v := iV l2) (pc := 66) (dec_at lsk_244 (k := 39) rfl) rfl ?_
      refine u_ld (v := lV (u.1 305 l3)) (pc := 67) (dec_at lsk_244 (k := 40) rfl) rfl ?_
      refine u_cvI (As := [iV l2, lV (u.1 305 l3)]) (rb := 271) (st2 := [iV l3, .ref 307]) (pc := 69) (dec_at lsk_244 (k := 41) rfl) m_12_401 (Or.inl rfl) rfl (Nat.le_of_ble_eq_true rfl) sx_271 me_247 rfl h (fun r9 u8 h => ?_)
      have g10 := h.1
      have h := h.2
      refine u_zast (pc := 72) (dec_at lsk_244 (k := 42) rfl) sx_307 g6 g7 g10 (fun u11 e12 => ?_)
      have h := h u11 e12
      refine u_ld (v := iV 0) (pc := 73) (dec_at lsk_244 (k := 43) rfl) rfl ?_
      refine u_sto (lv' := [.ref 271, iV l1, iV l2, iV l3, iV (u.1 304 l3), lV (u.1 305 l3), .retAddr 0, iV 0, .retAddr 0]) (pc := 74) (dec_at lsk_244 (k := 44) rfl) rfl ?_
      exact h
    · have h := ifF e5 h
      refine u_ld (v := .ref 271) (pc := 164) (dec_at lsk_244 (k := 94) rfl) rfl ?_
      refine u_cvI (As := []) (rb := 271) (st2 := []) (pc := 165) (dec_at lsk_244 (k := 95) rfl) m_12_378 (Or.inl rfl) rfl (Nat.le_of_ble_eq_true rfl) sx_271 me_243 rfl ?_ (fun _ _ h_ => h_)
      refine u_of me_243 (Nat.le_of_ble_eq_true rfl) ?_
      refine u_ld (v := .ref 271) (pc := 0) (dec_at lsk_243 (k := 0) rfl) rfl ?_
      refine u_ld (v := .ref 271) (pc := 1) (dec_at lsk_243 (k := 1) rfl) rfl ?_
      refine u_gI (z := 42) (pc := 2) (dec_at lsk_243 (k := 2) rfl) f_12_375 sx_271 rfl rfl ?_
      refine u_ld (v := iV 1) (pc := 5) (dec_at lsk_243 (k := 3) rfl) rfl ?_
      refine u_iadd (pc := 6) (dec_at lsk_243 (k := 4) rfl) ?_
      refine u_pI (z := 42) (pc := 7) (dec_at lsk_243 (k := 5) rfl) f_12_375 sx_271 rfl rfl rfl rfl (fun u13 e14 => ?_)
      have h := h u13 e14
      refine u_ld (v := .ref 271) (pc := 10) (dec_at lsk_243 (k := 6) rfl) rfl ?_
      refine u_gI (z := 42) (pc := 11) (dec_at lsk_243 (k := 7) rfl) f_12_375 sx_271 rfl rfl ?_
      refine u_ld (v := iV 1) (pc := 14) (dec_at lsk_243 (k := 8) rfl) rfl ?_
      refine u_isub (pc := 15) (dec_at lsk_243 (k := 9) rfl) ?_
      refine u_rI (pc := 16) (dec_at lsk_243 (k := 10) rfl) rfl ?_
      refine u_sto (lv' := [.ref 271, iV l1, iV l2, iV ((u13.1 271 42) - 1), .retAddr 0, .retAddr 0, .retAddr 0, .retAddr 0, .retAddr 0]) (pc := 168) (dec_at lsk_244 (k := 96) rfl) rfl ?_
      refine u_ld (v := .ref 271) (pc := 169) (dec_at lsk_244 (k := 97) rfl) rfl ?_
      refine u_ld (v := iV ((u13.1 271 42) - 1)) (pc := 170) (dec_at lsk_244 (k := 98) rfl) rfl ?_
      refine u_cvV (As := [iV ((u13.1 271 42) - 1)]) (rb := 271) (st2 := []) (pc := 171) (dec_at lsk_244 (k := 99) rfl) m_12_387 (Or.inl rfl) rfl (Nat.le_of_ble_eq_true rfl) sx_271 me_249 rfl h (fun u15 h => ?_)
      refine u_ld (v := iV ((u13.1 271 42) - 1)) (pc := 174) (dec_at lsk_244 (k := 100) rfl) rfl ?_
      exact u_rI (pc := 175) (dec_at lsk_244 (k := 101) rfl) rfl h
  · have h := ifF e3 h
    refine u_ld (v := .ref 271) (pc := 164) (dec_at lsk_244 (k := 94) rfl) rfl ?_
    refine u_cvI (As := []) (rb := 271) (st2 := []) (pc := 165) (dec_at lsk_244 (k := 95) rfl) m_12_378 (Or.inl rfl) rfl (Nat.le_of_ble_eq_true rfl) sx_271 me_243 rfl ?_ (fun _ _ h_ => h_)
    refine u_of me_243 (Nat.le_of_ble_eq_true rfl) ?_
    refine u_ld (v := .ref 271) (pc := 0) (dec_at lsk_243 (k := 0) rfl) rfl ?_
    refine u_ld (v := .ref 271) (pc := 1) (dec_at lsk_243 (k := 1) rfl) rfl ?_
    refine u_gI (z := 42) (pc := 2) (dec_at lsk_243 (k := 2) rfl) f_12_375 sx_271 rfl rfl ?_
    refine u_ld (v := iV 1) (pc := 5) (dec_at lsk_243 (k := 3) rfl) rfl ?_
    refine u_iadd (pc := 6) (dec_at lsk_243 (k := 4) rfl) ?_
    refine u_pI (z := 42) (pc := 7) (dec_at lsk_243 (k := 5) rfl) f_12_375 sx_271 rfl rfl rfl rfl (fun u16 e17 => ?_)
    have h := h u16 e17
    refine u_ld (v := .ref 271) (pc := 10) (dec_at lsk_243 (k := 6) rfl) rfl ?_
    refine u_gI (z := 42) (pc := 11) (dec_at lsk_243 (k := 7) rfl) f_12_375 sx_271 rfl rfl ?_
    refine u_ld (v := iV 1) (pc := 14) (dec_at lsk_243 (k := 8) rfl) rfl ?_
    refine u_isub (pc := 15) (dec_at lsk_243 (k := 9) rfl) ?_
    refine u_rI (pc := 16) (dec_at lsk_243 (k := 10) rfl) rfl ?_
    refine u_sto (lv' := [.ref 271, iV l1, iV l2, iV ((u16.1 271 42) - 1), .retAddr 0, .retAddr 0, .retAddr 0, .retAddr 0, .retAddr 0]) (pc := 168) (dec_at lsk_244 (k := 96) rfl) rfl ?_
    refine u_ld (v := .ref 271) (pc := 169) (dec_at lsk_244 (k := 97) rfl) rfl ?_
    refine u_ld (v := iV ((u16.1 271 42) - 1)) (pc := 170) (dec_at lsk_244 (k := 98) rfl) rfl ?_
    refine u_cvV (As := [iV ((u16.1 271 42) - 1)]) (rb := 271) (st2 := []) (pc := 171) (dec_at lsk_244 (k := 99) rfl) m_12_387 (Or.inl rfl) rfl (Nat.le_of_ble_eq_true rfl) sx_271 me_249 rfl h (fun u18 h => ?_)
    refine u_ld (v := iV ((u16.1 271 42) - 1)) (pc := 174) (dec_at lsk_244 (k := 100) rfl) rfl ?_
    exact u_rI (pc := 175) (dec_at lsk_244 (k := 101) rfl) rfl h
theorem k_244_76 {d : Nat} {Q : Int → uS → Prop} {u : uS} {l1 l2 l3 l4 l5 l7 : Int} (h : (rI l7) ∧ (if l7 < 10 then ((0 ≤ ((400 * l1) + (10 * l4)) + l7) ∧ ((((400 * l1) + (10 * l4)) + l7 < 40000) ∧ (cL (d + 1) 248 [.ref 271, iV l2, lV l5, iV l7] u (fun r6 u5 => (0 ≤ (40 * l1) + (u.1 302 (((400 * l1) + (10 * l4)) + l7))) ∧ (((40 * l1) + (u.1 302 (((400 * l1) + (10 * l4)) + l7)) < 4000) ∧ ((rI (u5.1 303 ((40 * l1) + (u.1 302 (((400 * l1) + (10 * l4)) + l7))))) ∧ (if u5.1 303 ((40 * l1) + (u.1 302 (((400 * l1) + (10 * l4)) + l7))) = 0 then (cI (d + 1) 246 [.ref 271, iV (u.1 302 (((400 * l1) + (10 * l4)) + l7)), lV (lor r6 0)] u5 (fun r12 u11 => (0 ≤ (10 * l3) + l7) ∧ (((10 * l3) + l7 < 20010) ∧ (∀ u15 : uS, u15 = wr u11 306 ((10 * l3) + l7) r12 → (K_244 (d + 1) 76 [.ref 271, iV l1, iV l2, iV l3, iV l4, lV l5, .retAddr 0, iV (l7 + 1), .retAddr 0] [] u15 Q))))) else (cI (d + 1) 246 [.ref 271, iV (u.1 302 (((400 * l1) + (10 * l4)) + l7)), lV (lor r6 1)] u5 (fun r18 u17 => (0 ≤ (10 * l3) + l7) ∧ (((10 * l3) + l7 < 20010) ∧ (∀ u21 : uS, u21 = wr u17 306 ((10 * l3) + l7) r18 → (K_244 (d + 1) 76 [.ref 271, iV l1, iV l2, iV l3, iV l4, lV l5, .retAddr 0, iV (l7 + 1), .retAddr 0] [] u21 Q)))))))))))) else (K_244 (d + 1) 29 [.ref 271, iV l1, iV l2, iV (l3 + 1), .retAddr 0, .retAddr 0, .retAddr 0, .retAddr 0, .retAddr 0] [] u Q))) : K_244 (d + 1) 76 [.ref 271, iV l1, iV l2, iV l3, iV l4, lV l5, .retAddr 0, iV l7, .retAddr 0] [] u Q := by
  unfold K_244
  refine u_ld (v := iV l7) (pc := 76) (dec_at lsk_244 (k := 45) rfl) rfl ?_
  refine u_c (x := 10) (pc := 78) (dec_at lsk_244 (k := 46) rfl) rfl (by decide) ?_
  have g1 := h.1
  have h := h.2
  refine u_icF (pc := 80) (tgt := 158) (dec_at lsk_244 (k := 47) rfl) rfl (ci_ge g1 (by decide)) (fun e2 => ?_) (fun e2 => ?_)
  · have h := ifT e2 h
    refine u_ld (v := .ref 271) (pc := 83) (dec_at lsk_244 (k := 48) rfl) rfl ?_
    refine u_gS (o := 31) (p := 302) (pc := 84) (dec_at lsk_244 (k := 49) rfl) f_12_103 sx_271 rfl rfl ?_
    refine u_c (x := 400) (pc := 87) (dec_at lsk_244 (k := 50) rfl) rfl (by decide) ?_
    refine u_ld (v := iV l1) (pc := 90) (dec_at lsk_244 (k := 51) rfl) rfl ?_
    refine u_imul (pc := 91) (dec_at lsk_244 (k := 52) rfl) ?_
    refine u_c (x := 10) (pc := 92) (dec_at lsk_244 (k := 53) rfl) rfl (by decide) ?_
    refine u_ld (v := iV l4) (pc := 94) (dec_at lsk_244 (k := 54) rfl) rfl ?_
    refine u_imul (pc := 96) (dec_at lsk_244 (k := 55) rfl) ?_
    refine u_iadd (pc := 97) (dec_at lsk_244 (k := 56) rfl) ?_
    refine u_ld (v := iV l7) (pc := 98) (dec_at lsk_244 (k := 57) rfl) rfl ?_
    refine u_iadd (pc := 100) (dec_at lsk_244 (k := 58) rfl) ?_
    have g3 := h.1
    have h := h.2
    have g4 := h.1
    have h := h.2
    refine u_iald (pc := 101) (dec_at lsk_244 (k := 59) rfl) sx_302 g3 g4 ?_
    refine u_sto (lv' := [.ref 271, iV l1, iV l2, iV l3, iV l4, lV l5, .retAddr 0, iV l7, iV (u.1 302 (((400 * l1) + (10 * l4)) + l7))]) (pc := 102) (dec_at lsk_244 (k := 60) rfl) rfl ?_
    refine u_ld (v := .ref 271) (pc := 104) (dec_at lsk_244 (k := 61) rfl) rfl ?_
    refine u_gS (o := 35) (p := 306) (pc := 105) (dec_at lsk_244 (k := 62) rfl) f_12_115 sx_271 rfl rfl ?_
    refine u_c (x := 10) (pc := 108) (dec_at lsk_244 (k := 63) rfl) rfl (by decide) ?_
    refine u_ld (v := iV l3) (pc := 110) (dec_at lsk_244 (k := 64) rfl) rfl ?_
    refine u_imul (pc := 111) (dec_at lsk_244 (k := 65) rfl) ?_
    refine u_ld (v := iV l7) (pc := 112) (dec_at lsk_244 (k := 66) rfl) rfl ?_
    refine u_iadd (pc := 114) (dec_at lsk_244 (k := 67) rfl) ?_
    refine u_ld (v := .ref 271) (pc := 115) (dec_at lsk_244 (k := 68) rfl) rfl ?_
    refine u_ld (v := iV (u.1 302 (((400 * l1) + (10 * l4)) + l7))) (pc := 116) (dec_at lsk_244 (k := 69) rfl) rfl ?_
    refine u_ld (v := .ref 271) (pc := 118) (dec_at lsk_244 (k := 70) rfl) rfl ?_
    refine u_ld (v := iV l2) (pc := 119) (dec_at lsk_244 (k := 71) rfl) rfl ?_
    refine u_ld (v := lV l5) (pc := 120) (dec_at lsk_244 (k := 72) rfl) rfl ?_
    refine u_ld (v := iV l7) (pc := 122) (dec_at lsk_244 (k := 73) rfl) rfl ?_
    refine u_cvL (As := [iV l2, lV l5, iV l7]) (rb := 271) (st2 := [iV (u.1 302 (((400 * l1) + (10 * l4)) + l7)), .ref 271, iV ((10 * l3) + l7), .ref 306]) (pc := 124) (dec_at lsk_244 (k := 74) rfl) m_12_405 (Or.inl rfl) rfl (Nat.le_of_ble_eq_true rfl) sx_271 me_248 rfl h (fun r6 u5 h => ?_)
    refine u_ld (v := .ref 271) (pc := 127) (dec_at lsk_244 (k := 75) rfl) rfl ?_
    refine u_gS (o := 32) (p := 303) (pc := 128) (dec_at lsk_244 (k := 76) rfl) f_12_106 sx_271 rfl rfl ?_
    refine u_c (x := 40) (pc := 131) (dec_at lsk_244 (k := 77) rfl) rfl (by decide) ?_
    refine u_ld (v := iV l1) (pc := 133) (dec_at lsk_244 (k := 78) rfl) rfl ?_
    refine u_imul (pc := 134) (dec_at lsk_244 (k := 79) rfl) ?_
    refine u_ld (v := iV (u.1 302 (((400 * l1) + (10 * l4)) + l7))) (pc := 135) (dec_at lsk_244 (k := 80) rfl) rfl ?_
    refine u_iadd (pc := 137) (dec_at lsk_244 (k := 81) rfl) ?_
    have g7 := h.1
    have h := h.2
    have g8 := h.1
    have h := h.2
    refine u_zald (pc := 138) (dec_at lsk_244 (k := 82) rfl) sx_303 g7 g8 ?_
    have g9 := h.1
    have h := h.2
    refine u_ifT (pc := 139) (tgt := 146) (dec_at lsk_244 (k := 83) rfl) rfl (c0_eq g9) (fun e10 => ?_) (fun e10 => ?_)
    · have h := ifT e10 h
      refine u_cl (x := 0) (pc := 146) (dec_at lsk_244 (k := 86) rfl) rfl (by decide) ?_
      refine u_lor (pc := 147) (dec_at lsk_244 (k := 87) rfl) ?_
      refine u_cvI (As := [iV (u.1 302 (((400 * l1) + (10 * l4)) + l7)), lV (lor r6 0)]) (rb := 271) (st2 := [iV ((10 * l3) + l7), .ref 306]) (pc := 148) (dec_at lsk_244 (k := 88) rfl) m_12_397 (Or.inl rfl) rfl (Nat.le_of_ble_eq_true rfl) sx_271 me_246 rfl h (fun r12 u11 h => ?_)
      have g13 := h.1
      have h := h.2
      have g14 := h.1
      have h := h.2
      refine u_iast (pc := 151) (dec_at lsk_244 (k := 89) rfl) sx_306 g13 g14 (fun u15 e16 => ?_)
      have h := h u15 e16
      refine u_inc (lv' := [.ref 271, iV l1, iV l2, iV l3, iV l4, lV l5, .retAddr 0, iV (l7 + 1), iV (u.1 302 (((400 * l1) + (10 * l4)) + l7))]) (pc := 152) (dec_at lsk_244 (k := 90) rfl) rfl (by decide) rfl ?_
      refine u_goto (pc := 155) (tgt := 76) (dec_at lsk_244 (k := 91) rfl) rfl ?_
      exact u_weak (sbK (sbK (sbK (sbK (sbK (sbK (sbK (sbK (sbD sb0))))))))) h
    · have h := ifF e10 h
      refine u_cl (x := 1) (pc := 142) (dec_at lsk_244 (k := 84) rfl) rfl (by decide) ?_
      refine u_goto (pc := 143) (tgt := 147) (dec_at lsk_244 (k := 85) rfl) rfl ?_
      refine u_lor (pc := 147) (dec_at lsk_244 (k := 87) rfl) ?_
      refine u_cvI (As := [iV (u.1 302 (((400 * l1) + (10 * l4)) + l7)), lV (lor r6 1)]) (rb := 271) (st2 := [iV ((10 * l3) + l7), .ref 306]) (pc := 148) (dec_at lsk_244 (k := 88) rfl) m_12_397 (Or.inl rfl) rfl (Nat.le_of_ble_eq_true rfl) sx_271 me_246 rfl h (fun r18 u17 h => ?_)
      have g19 := h.1
      have h := h.2
      have g20 := h.1
      have h := h.2
      refine u_iast (pc := 151) (dec_at lsk_244 (k := 89) rfl) sx_306 g19 g20 (fun u21 e22 => ?_)
      have h := h u21 e22
      refine u_inc (lv' := [.ref 271, iV l1, iV l2, iV l3, iV l4, lV l5, .retAddr 0, iV (l7 + 1), iV (u.1 302 (((400 * l1) + (10 * l4)) + l7))]) (pc := 152) (dec_at lsk_244 (k := 90) rfl) rfl (by decide) rfl ?_
      refine u_goto (pc := 155) (tgt := 76) (dec_at lsk_244 (k := 91) rfl) rfl ?_
      exact u_weak (sbK (sbK (sbK (sbK (sbK (sbK (sbK (sbK (sbD sb0))))))))) h
  · have h := ifF e2 h
    refine u_inc (lv' := [.ref 271, iV l1, iV l2, iV (l3 + 1), iV l4, lV l5, .retAddr 0, iV l7, .retAddr 0]) (pc := 158) (dec_at lsk_244 (k := 92) rfl) rfl (by decide) rfl ?_
    refine u_goto (pc := 161) (tgt := 29) (dec_at lsk_244 (k := 93) rfl) rfl ?_
    exact u_weak (sbK (sbK (sbK (sbK (sbD (sbD (sbK (sbD (sbK sb0))))))))) h
/-- method 245 -/
def K_245 (d pc : Nat) (lv : ev_L) (st : List Value) (u : uS) (Q : uS → Prop) : Prop := okU d 12 2 false none prog_14_method_39_code (qV Q) pc lv st u
theorem e_245 {d : Nat} {Q : uS → Prop} {u : uS} (h : ∀ u1 : uS, u1 = wr u 271 44 0 → (K_245 d 7 [.ref 271, iV 0] [] u1 Q)) : cV (d + 1) 245 [.ref 271] u Q := by
  refine u_of me_245 (Nat.le_of_ble_eq_true rfl) ?_
  refine u_ld (v := .ref 271) (pc := 0) (dec_at lsk_245 (k := 0) rfl) rfl ?_
  refine u_ld (v := iV 0) (pc := 1) (dec_at lsk_245 (k := 1) rfl) rfl ?_
  refine u_pI (z := 44) (pc := 2) (dec_at lsk_245 (k := 2) rfl) f_12_384 sx_271 rfl rfl rfl rfl (fun u1 e2 => ?_)
  have h := h u1 e2
  refine u_ld (v := iV 0) (pc := 5) (dec_at lsk_245 (k := 3) rfl) rfl ?_
  refine u_sto (lv' := [.ref 271, iV 0]) (pc := 6) (dec_at lsk_245 (k := 4) rfl) rfl ?_
  exact h
theorem k_245_7 {d : Nat} {Q : uS → Prop} {u : uS} {l1 : Int} (h : (rI l1) ∧ (if l1 < 8192 then ((0 ≤ l1) ∧ (∀ u4 : uS, u4 = wr u 308 l1 (-2) → (K_245 d 7 [.ref 271, iV (l1 + 1)] [] u4 Q))) else (Q u))) : K_245 d 7 [.ref 271, iV l1] [] u Q := by
  unfold K_245
  refine u_ld (v := iV l1) (pc := 7) (dec_at lsk_245 (k := 5) rfl) rfl ?_
  refine u_c (x := 8192) (pc := 8) (dec_at lsk_245 (k := 6) rfl) rfl (by decide) ?_
  have g1 := h.1
  have h := h.2
  refine u_icF (pc := 11) (tgt := 28) (dec_at lsk_245 (k := 7) rfl) rfl (ci_ge g1 (by decide)) (fun e2 => ?_) (fun e2 => ?_)
  · have h := ifT e2 h
    refine u_ld (v := .ref 271) (pc := 14) (dec_at lsk_245 (k := 8) rfl) rfl ?_
    refine u_gS (o := 37) (p := 308) (pc := 15) (dec_at lsk_245 (k := 9) rfl) f_12_121 sx_271 rfl rfl ?_
    refine u_ld (v := iV l1) (pc := 18) (dec_at lsk_245 (k := 10) rfl) rfl ?_
    refine u_c (x := (-2)) (pc := 19) (dec_at lsk_245 (k := 11) rfl) rfl (by decide) ?_
    have g3 := h.1
    have h := h.2
    refine u_iast (pc := 21) (dec_at lsk_245 (k := 12) rfl) sx_308 g3 e2 (fun u4 e5 => ?_)
    have h := h u4 e5
    refine u_inc (lv' := [.ref 271, iV (l1 + 1)]) (pc := 22) (dec_at lsk_245 (k := 13) rfl) rfl (by decide) rfl ?_
    refine u_goto (pc := 25) (tgt := 7) (dec_at lsk_245 (k := 14) rfl) rfl ?_
    exact h
  · have h := ifF e2 h
    exact u_rV (pc := 28) (dec_at lsk_245 (k := 15) rfl) rfl h
/-- method 246 -/
def K_246 (d pc : Nat) (lv : ev_L) (st : List Value) (u : uS) (Q : Int → uS → Prop) : Prop := okU d 12 8 false (some .int) prog_14_method_40_code (qI Q) pc lv st u
theorem e_246 {d : Nat} {Q : Int → uS → Prop} {u : uS} {l1 l2 : Int} (h : (rI l1) ∧ (K_246 d 35 [.ref 271, iV l1, lV l2, .retAddr 0, .retAddr 0, .retAddr 0, iV (iand (wI (lxor (lxor ((1000003 * l2) + (31 * l1)) (lushr ((1000003 * l2) + (31 * l1)) 17)) (lushr ((1000003 * l2) + (31 * l1)) 34))) 8191), .retAddr 0] [] u Q)) : cI (d + 1) 246 [.ref 271, iV l1, lV l2] u Q := by
  refine u_of me_246 (Nat.le_of_ble_eq_true rfl) ?_
  refine u_ldc2 (x := 1000003) (pc := 0) (dec_at lsk_246 (k := 0) rfl) con_12_390 (by decide) ?_
  refine u_ld (v := lV l2) (pc := 3) (dec_at lsk_246 (k := 1) rfl) rfl ?_
  refine u_lmul (pc := 4) (dec_at lsk_246 (k := 2) rfl) ?_
  refine u_ldc2 (x := 31) (pc := 5) (dec_at lsk_246 (k := 3) rfl) con_12_392 (by decide) ?_
  refine u_ld (v := iV l1) (pc := 8) (dec_at lsk_246 (k := 4) rfl) rfl ?_
  have g1 := h.1
  have h := h.2
  refine u_i2l (pc := 9) (dec_at lsk_246 (k := 5) rfl) g1 ?_
  refine u_lmul (pc := 10) (dec_at lsk_246 (k := 6) rfl) ?_
  refine u_ladd (pc := 11) (dec_at lsk_246 (k := 7) rfl) ?_
  refine u_sto (lv' := [.ref 271, iV l1, lV l2, .retAddr 0, lV ((1000003 * l2) + (31 * l1)), .retAddr 0, .retAddr 0, .retAddr 0]) (pc := 12) (dec_at lsk_246 (k := 8) rfl) rfl ?_
  refine u_ld (v := lV ((1000003 * l2) + (31 * l1))) (pc := 14) (dec_at lsk_246 (k := 9) rfl) rfl ?_
  refine u_ld (v := lV ((1000003 * l2) + (31 * l1))) (pc := 16) (dec_at lsk_246 (k := 10) rfl) rfl ?_
  refine u_c (x := 17) (pc := 18) (dec_at lsk_246 (k := 11) rfl) rfl (by decide) ?_
  refine u_lushr (pc := 20) (dec_at lsk_246 (k := 12) rfl) ?_
  refine u_lxor (pc := 21) (dec_at lsk_246 (k := 13) rfl) ?_
  refine u_ld (v := lV ((1000003 * l2) + (31 * l1))) (pc := 22) (dec_at lsk_246 (k := 14) rfl) rfl ?_
  refine u_c (x := 34) (pc := 24) (dec_at lsk_246 (k := 15) rfl) rfl (by decide) ?_
  refine u_lushr (pc := 26) (dec_at lsk_246 (k := 16) rfl) ?_
  refine u_lxor (pc := 27) (dec_at lsk_246 (k := 17) rfl) ?_
  refine u_l2w (pc := 28) (dec_at lsk_246 (k := 18) rfl) ?_
  refine u_c (x := 8191) (pc := 29) (dec_at lsk_246 (k := 19) rfl) rfl (by decide) ?_
  refine u_iand (pc := 32) (dec_at lsk_246 (k := 20) rfl) ?_
  refine u_sto (lv' := [.ref 271, iV l1, lV l2, .retAddr 0, lV ((1000003 * l2) + (31 * l1)), .retAddr 0, iV (iand (wI (lxor (lxor ((1000003 * l2) + (31 * l1)) (lushr ((1000003 * l2) + (31 * l1)) 17)) (lushr ((1000003 * l2) + (31 * l1)) 34))) 8191), .retAddr 0]) (pc := 33) (dec_at lsk_246 (k := 21) rfl) rfl ?_
  exact u_weak (sbK (sbK (sbK (sbK (sbD (sbK (sbK (sbK sb0)))))))) h
theorem k_246_35 {d : Nat} {Q : Int → uS → Prop} {u : uS} {l1 l2 l6 : Int} (h : (0 ≤ l6) ∧ ((l6 < 8192) ∧ ((rI (u.1 308 l6)) ∧ (if u.1 308 l6 = (-2) then ((rI (u.1 271 44)) ∧ (if u.1 271 44 = 2000 then (∀ u7 : uS, u7 = wr u 271 43 1 → (Q 0 u7)) else (∀ u9 : uS, u9 = wr u 308 l6 (u.1 271 44) → ((0 ≤ u9.1 271 44) ∧ ((u9.1 271 44 < 2001) ∧ (∀ u13 : uS, u13 = wr u9 304 (u9.1 271 44) l1 → ((0 ≤ u13.1 271 44) ∧ ((u13.1 271 44 < 2001) ∧ (∀ u17 : uS, u17 = wr u13 305 (u13.1 271 44) l2 → (∀ u19 : uS, u19 = wr u17 271 44 ((u17.1 271 44) + 1) → (Q ((u19.1 271 44) - 1) u19))))))))))) else ((0 ≤ u.1 308 l6) ∧ ((u.1 308 l6 < 2001) ∧ ((rI (u.1 304 (u.1 308 l6))) ∧ ((rI l1) ∧ (if u.1 304 (u.1 308 l6) = l1 then ((rL (u.1 305 (u.1 308 l6))) ∧ ((rL l2) ∧ (if u.1 305 (u.1 308 l6) = l2 then (Q (u.1 308 l6) u) else (K_246 d 35 [.ref 271, iV l1, lV l2, .retAddr 0, .retAddr 0, .retAddr 0, iV (iand (l6 + 1) 8191), .retAddr 0] [] u Q)))) else (K_246 d 35 [.ref 271, iV l1, lV l2, .retAddr 0, .retAddr 0, .retAddr 0, iV (iand (l6 + 1) 8191), .retAddr 0] [] u Q)))))))))) : K_246 d 35 [.ref 271, iV l1, lV l2, .retAddr 0, .retAddr 0, .retAddr 0, iV l6, .retAddr 0] [] u Q := by
  unfold K_246
  refine u_ld (v := .ref 271) (pc := 35) (dec_at lsk_246 (k := 22) rfl) rfl ?_
  refine u_gS (o := 37) (p := 308) (pc := 36) (dec_at lsk_246 (k := 23) rfl) f_12_121 sx_271 rfl rfl ?_
  refine u_ld (v := iV l6) (pc := 39) (dec_at lsk_246 (k := 24) rfl) rfl ?_
  have g1 := h.1
  have h := h.2
  have g2 := h.1
  have h := h.2
  refine u_iald (pc := 41) (dec_at lsk_246 (k := 25) rfl) sx_308 g1 g2 ?_
  refine u_c (x := (-2)) (pc := 42) (dec_at lsk_246 (k := 26) rfl) rfl (by decide) ?_
  have g3 := h.1
  have h := h.2
  refine u_icT (pc := 44) (tgt := 95) (dec_at lsk_246 (k := 27) rfl) rfl (ci_eq g3 (by decide)) (fun e4 => ?_) (fun e4 => ?_)
  · have h := ifT e4 h
    refine u_ld (v := .ref 271) (pc := 95) (dec_at lsk_246 (k := 55) rfl) rfl ?_
    refine u_gI (z := 44) (pc := 96) (dec_at lsk_246 (k := 56) rfl) f_12_384 sx_271 rfl rfl ?_
    refine u_c (x := 2000) (pc := 99) (dec_at lsk_246 (k := 57) rfl) rfl (by decide) ?_
    have g5 := h.1
    have h := h.2
    refine u_icF (pc := 102) (tgt := 112) (dec_at lsk_246 (k := 58) rfl) rfl (ci_ne g5 (by decide)) (fun e6 => ?_) (fun e6 => ?_)
    · have h := ifT e6 h
      refine u_ld (v := .ref 271) (pc := 105) (dec_at lsk_246 (k := 59) rfl) rfl ?_
      refine u_ld (v := iV 1) (pc := 106) (dec_at lsk_246 (k := 60) rfl) rfl ?_
      refine u_pZ (z := 43) (pc := 107) (dec_at lsk_246 (k := 61) rfl) f_12_394 sx_271 rfl rfl rfl rfl (by decide) (fun u7 e8 => ?_)
      have h := h u7 e8
      refine u_ld (v := iV 0) (pc := 110) (dec_at lsk_246 (k := 62) rfl) rfl ?_
      exact u_rI (pc := 111) (dec_at lsk_246 (k := 63) rfl) rfl h
    · have h := ifF e6 h
      refine u_ld (v := .ref 271) (pc := 112) (dec_at lsk_246 (k := 64) rfl) rfl ?_
      refine u_gS (o := 37) (p := 308) (pc := 113) (dec_at lsk_246 (k := 65) rfl) f_12_121 sx_271 rfl rfl ?_
      refine u_ld (v := iV l6) (pc := 116) (dec_at lsk_246 (k := 66) rfl) rfl ?_
      refine u_ld (v := .ref 271) (pc := 118) (dec_at lsk_246 (k := 67) rfl) rfl ?_
      refine u_gI (z := 44) (pc := 119) (dec_at lsk_246 (k := 68) rfl) f_12_384 sx_271 rfl rfl ?_
      refine u_iast (pc := 122) (dec_at lsk_246 (k := 69) rfl) sx_308 g1 g2 (fun u9 e10 => ?_)
      have h := h u9 e10
      refine u_ld (v := .ref 271) (pc := 123) (dec_at lsk_246 (k := 70) rfl) rfl ?_
      refine u_gS (o := 33) (p := 304) (pc := 124) (dec_at lsk_246 (k := 71) rfl) f_12_109 sx_271 rfl rfl ?_
      refine u_ld (v := .ref 271) (pc := 127) (dec_at lsk_246 (k := 72) rfl) rfl ?_
      refine u_gI (z := 44) (pc := 128) (dec_at lsk_246 (k := 73) rfl) f_12_384 sx_271 rfl rfl ?_
      refine u_ld (v := iV l1) (pc := 131) (dec_at lsk_246 (k := 74) rfl) rfl ?_
      have g11 := h.1
      have h := h.2
      have g12 := h.1
      have h := h.2
      refine u_iast (pc := 132) (dec_at lsk_246 (k := 75) rfl) sx_304 g11 g12 (fun u13 e14 => ?_)
      have h := h u13 e14
      refine u_ld (v := .ref 271) (pc := 133) (dec_at lsk_246 (k := 76) rfl) rfl ?_
      refine u_gS (o := 34) (p := 305) (pc := 134) (dec_at lsk_246 (k := 77) rfl) f_12_112 sx_271 rfl rfl ?_
      refine u_ld (v := .ref 271) (pc := 137) (dec_at lsk_246 (k := 78) rfl) rfl ?_
      refine u_gI (z := 44) (pc := 138) (dec_at lsk_246 (k := 79) rfl) f_12_384 sx_271 rfl rfl ?_
      refine u_ld (v := lV l2) (pc := 141) (dec_at lsk_246 (k := 80) rfl) rfl ?_
      have g15 := h.1
      have h := h.2
      have g16 := h.1
      have h := h.2
      refine u_last (pc := 142) (dec_at lsk_246 (k := 81) rfl) sx_305 g15 g16 (fun u17 e18 => ?_)
      have h := h u17 e18
      refine u_ld (v := .ref 271) (pc := 143) (dec_at lsk_246 (k := 82) rfl) rfl ?_
      refine u_ld (v := .ref 271) (pc := 144) (dec_at lsk_246 (k := 83) rfl) rfl ?_
      refine u_gI (z := 44) (pc := 145) (dec_at lsk_246 (k := 84) rfl) f_12_384 sx_271 rfl rfl ?_
      refine u_ld (v := iV 1) (pc := 148) (dec_at lsk_246 (k := 85) rfl) rfl ?_
      refine u_iadd (pc := 149) (dec_at lsk_246 (k := 86) rfl) ?_
      refine u_pI (z := 44) (pc := 150) (dec_at lsk_246 (k := 87) rfl) f_12_384 sx_271 rfl rfl rfl rfl (fun u19 e20 => ?_)
      have h := h u19 e20
      refine u_ld (v := .ref 271) (pc := 153) (dec_at lsk_246 (k := 88) rfl) rfl ?_
      refine u_gI (z := 44) (pc := 154) (dec_at lsk_246 (k := 89) rfl) f_12_384 sx_271 rfl rfl ?_
      refine u_ld (v := iV 1) (pc := 157) (dec_at lsk_246 (k := 90) rfl) rfl ?_
      refine u_isub (pc := 158) (dec_at lsk_246 (k := 91) rfl) ?_
      exact u_rI (pc := 159) (dec_at lsk_246 (k := 92) rfl) rfl h
  · have h := ifF e4 h
    refine u_ld (v := .ref 271) (pc := 47) (dec_at lsk_246 (k := 28) rfl) rfl ?_
    refine u_gS (o := 37) (p := 308) (pc := 48) (dec_at lsk_246 (k := 29) rfl) f_12_121 sx_271 rfl rfl ?_
    refine u_ld (v := iV l6) (pc := 51) (dec_at lsk_246 (k := 30) rfl) rfl ?_
    refine u_iald (pc := 53) (dec_at lsk_246 (k := 31) rfl) sx_308 g1 g2 ?_
    refine u_sto (lv' := [.ref 271, iV l1, lV l2, .retAddr 0, .retAddr 0, .retAddr 0, iV l6, iV (u.1 308 l6)]) (pc := 54) (dec_at lsk_246 (k := 32) rfl) rfl ?_
    refine u_ld (v := .ref 271) (pc := 56) (dec_at lsk_246 (k := 33) rfl) rfl ?_
    refine u_gS (o := 33) (p := 304) (pc := 57) (dec_at lsk_246 (k := 34) rfl) f_12_109 sx_271 rfl rfl ?_
    refine u_ld (v := iV (u.1 308 l6)) (pc := 60) (dec_at lsk_246 (k := 35) rfl) rfl ?_
    have g21 := h.1
    have h := h.2
    have g22 := h.1
    have h := h.2
    refine u_iald (pc := 62) (dec_at lsk_246 (k := 36) rfl) sx_304 g21 g22 ?_
    refine u_ld (v := iV l1) (pc := 63) (dec_at lsk_246 (k := 37) rfl) rfl ?_
    have g23 := h.1
    have h := h.2
    have g24 := h.1
    have h := h.2
    refine u_icF (pc := 64) (tgt := 82) (dec_at lsk_246 (k := 38) rfl) rfl (ci_ne g23 g24) (fun e25 => ?_) (fun e25 => ?_)
    · have h := ifT e25 h
      refine u_ld (v := .ref 271) (pc := 67) (dec_at lsk_246 (k := 39) rfl) rfl ?_
      refine u_gS (o := 34) (p := 305) (pc := 68) (dec_at lsk_246 (k := 40) rfl) f_12_112 sx_271 rfl rfl ?_
      refine u_ld (v := iV (u.1 308 l6)) (pc := 71) (dec_at lsk_246 (k := 41) rfl) rfl ?_
      refine u_lald (pc := 73) (dec_at lsk_246 (k := 42) rfl) sx_305 g21 g22 ?_
      refine u_ld (v := lV l2) (pc := 74) (dec_at lsk_246 (k := 43) rfl) rfl ?_
      refine u_st (st' := [.int (lg_cmp (Int64.ofInt (u.1 305 (u.1 308 l6))) (Int64.ofInt l2))]) (pc := 75) (dec_at lsk_246 (k := 44) rfl) rfl ?_
      have g26 := h.1
      have h := h.2
      have g27 := h.1
      have h := h.2
      refine u_ifF (pc := 76) (tgt := 82) (dec_at lsk_246 (k := 45) rfl) rfl (cl_ne g26 g27) (fun e28 => ?_) (fun e28 => ?_)
      · have h := ifT e28 h
        refine u_ld (v := iV (u.1 308 l6)) (pc := 79) (dec_at lsk_246 (k := 46) rfl) rfl ?_
        exact u_rI (pc := 81) (dec_at lsk_246 (k := 47) rfl) rfl h
      · have h := ifF e28 h
        refine u_ld (v := iV l6) (pc := 82) (dec_at lsk_246 (k := 48) rfl) rfl ?_
        refine u_ld (v := iV 1) (pc := 84) (dec_at lsk_246 (k := 49) rfl) rfl ?_
        refine u_iadd (pc := 85) (dec_at lsk_246 (k := 50) rfl) ?_
        refine u_c (x := 8191) (pc := 86) (dec_at lsk_246 (k := 51) rfl) rfl (by decide) ?_
        refine u_iand (pc := 89) (dec_at lsk_246 (k := 52) rfl) ?_
        refine u_sto (lv' := [.ref 271, iV l1, lV l2, .retAddr 0, .retAddr 0, .retAddr 0, iV (iand (l6 + 1) 8191), iV (u.1 308 l6)]) (pc := 90) (dec_at lsk_246 (k := 53) rfl) rfl ?_
        refine u_goto (pc := 92) (tgt := 35) (dec_at lsk_246 (k := 54) rfl) rfl ?_
        exact u_weak (sbK (sbK (sbK (sbK (sbK (sbK (sbK (sbD sb0)))))))) h
    · have h := ifF e25 h
      refine u_ld (v := iV l6) (pc := 82) (dec_at lsk_246 (k := 48) rfl) rfl ?_
      refine u_ld (v := iV 1) (pc := 84) (dec_at lsk_246 (k := 49) rfl) rfl ?_
      refine u_iadd (pc := 85) (dec_at lsk_246 (k := 50) rfl) ?_
      refine u_c (x := 8191) (pc := 86) (dec_at lsk_246 (k := 51) rfl) rfl (by decide) ?_
      refine u_iand (pc := 89) (dec_at lsk_246 (k := 52) rfl) ?_
      refine u_sto (lv' := [.ref 271, iV l1, lV l2, .retAddr 0, .retAddr 0, .retAddr 0, iV (iand (l6 + 1) 8191), iV (u.1 308 l6)]) (pc := 90) (dec_at lsk_246 (k := 53) rfl) rfl ?_
      refine u_goto (pc := 92) (tgt := 35) (dec_at lsk_246 (k := 54) rfl) rfl ?_
      exact u_weak (sbK (sbK (sbK (sbK (sbK (sbK (sbK (sbD sb0)))))))) h
/-- method 247 -/
def K_247 (d pc : Nat) (lv : ev_L) (st : List Value) (u : uS) (Q : Int → uS → Prop) : Prop := okU d 12 5 false (some .boolean) prog_14_method_42_code (qI Q) pc lv st u
theorem e_247 {d : Nat} {Q : Int → uS → Prop} {u : uS} {l1 l2 : Int} (h : K_247 d 3 [.ref 271, iV l1, lV l2, .retAddr 0, iV 0] [] u Q) : cI (d + 1) 247 [.ref 271, iV l1, lV l2] u Q := by
  refine u_of me_247 (Nat.le_of_ble_eq_true rfl) ?_
  refine u_ld (v := iV 0) (pc := 0) (dec_at lsk_247 (k := 0) rfl) rfl ?_
  refine u_sto (lv' := [.ref 271, iV l1, lV l2, .retAddr 0, iV 0]) (pc := 1) (dec_at lsk_247 (k := 1) rfl) rfl ?_
  exact h
theorem k_247_3 {d : Nat} {Q : Int → uS → Prop} {u : uS} {l1 l2 l4 : Int} (h : (0 ≤ l1) ∧ ((l1 < 100) ∧ ((rI l4) ∧ ((rI (u.1 301 l1)) ∧ (if l4 < u.1 301 l1 then (if land (lshr l2 l4) 1 = 1 then ((0 ≤ (40 * l1) + l4) ∧ (((40 * l1) + l4 < 4000) ∧ ((rI (u.1 303 ((40 * l1) + l4))) ∧ (if u.1 303 ((40 * l1) + l4) = 0 then (K_247 d 3 [.ref 271, iV l1, lV l2, .retAddr 0, iV (l4 + 1)] [] u Q) else (Q 1 u))))) else (K_247 d 3 [.ref 271, iV l1, lV l2, .retAddr 0, iV (l4 + 1)] [] u Q)) else (Q 0 u)))))) : K_247 d 3 [.ref 271, iV l1, lV l2, .retAddr 0, iV l4] [] u Q := by
  unfold K_247
  refine u_ld (v := iV l4) (pc := 3) (dec_at lsk_247 (k := 2) rfl) rfl ?_
  refine u_ld (v := .ref 271) (pc := 5) (dec_at lsk_247 (k := 3) rfl) rfl ?_
  refine u_gS (o := 30) (p := 301) (pc := 6) (dec_at lsk_247 (k := 4) rfl) f_12_99 sx_271 rfl rfl ?_
  refine u_ld (v := iV l1) (pc := 9) (dec_at lsk_247 (k := 5) rfl) rfl ?_
  have g1 := h.1
  have h := h.2
  have g2 := h.1
  have h := h.2
  refine u_iald (pc := 10) (dec_at lsk_247 (k := 6) rfl) sx_301 g1 g2 ?_
  have g3 := h.1
  have h := h.2
  have g4 := h.1
  have h := h.2
  refine u_icF (pc := 11) (tgt := 48) (dec_at lsk_247 (k := 7) rfl) rfl (ci_ge g3 g4) (fun e5 => ?_) (fun e5 => ?_)
  · have h := ifT e5 h
    refine u_ld (v := lV l2) (pc := 14) (dec_at lsk_247 (k := 8) rfl) rfl ?_
    refine u_ld (v := iV l4) (pc := 15) (dec_at lsk_247 (k := 9) rfl) rfl ?_
    refine u_lshr (pc := 17) (dec_at lsk_247 (k := 10) rfl) ?_
    refine u_cl (x := 1) (pc := 18) (dec_at lsk_247 (k := 11) rfl) rfl (by decide) ?_
    refine u_land (pc := 19) (dec_at lsk_247 (k := 12) rfl) ?_
    refine u_cl (x := 1) (pc := 20) (dec_at lsk_247 (k := 13) rfl) rfl (by decide) ?_
    refine u_st (st' := [.int (lg_cmp (Int64.ofInt (land (lshr l2 l4) 1)) (Int64.ofInt 1))]) (pc := 21) (dec_at lsk_247 (k := 14) rfl) rfl ?_
    refine u_ifF (pc := 22) (tgt := 42) (dec_at lsk_247 (k := 15) rfl) rfl (cl_ne (rl_toInt _) (by decide)) (fun e6 => ?_) (fun e6 => ?_)
    · have h := ifT e6 h
      refine u_ld (v := .ref 271) (pc := 25) (dec_at lsk_247 (k := 16) rfl) rfl ?_
      refine u_gS (o := 32) (p := 303) (pc := 26) (dec_at lsk_247 (k := 17) rfl) f_12_106 sx_271 rfl rfl ?_
      refine u_c (x := 40) (pc := 29) (dec_at lsk_247 (k := 18) rfl) rfl (by decide) ?_
      refine u_ld (v := iV l1) (pc := 31) (dec_at lsk_247 (k := 19) rfl) rfl ?_
      refine u_imul (pc := 32) (dec_at lsk_247 (k := 20) rfl) ?_
      refine u_ld (v := iV l4) (pc := 33) (dec_at lsk_247 (k := 21) rfl) rfl ?_
      refine u_iadd (pc := 35) (dec_at lsk_247 (k := 22) rfl) ?_
      have g7 := h.1
      have h := h.2
      have g8 := h.1
      have h := h.2
      refine u_zald (pc := 36) (dec_at lsk_247 (k := 23) rfl) sx_303 g7 g8 ?_
      have g9 := h.1
      have h := h.2
      refine u_ifT (pc := 37) (tgt := 42) (dec_at lsk_247 (k := 24) rfl) rfl (c0_eq g9) (fun e10 => ?_) (fun e10 => ?_)
      · have h := ifT e10 h
        refine u_inc (lv' := [.ref 271, iV l1, lV l2, .retAddr 0, iV (l4 + 1)]) (pc := 42) (dec_at lsk_247 (k := 27) rfl) rfl (by decide) rfl ?_
        refine u_goto (pc := 45) (tgt := 3) (dec_at lsk_247 (k := 28) rfl) rfl ?_
        exact h
      · have h := ifF e10 h
        refine u_ld (v := iV 1) (pc := 40) (dec_at lsk_247 (k := 25) rfl) rfl ?_
        exact u_rZ (pc := 41) (dec_at lsk_247 (k := 26) rfl) rfl (by decide) h
    · have h := ifF e6 h
      refine u_inc (lv' := [.ref 271, iV l1, lV l2, .retAddr 0, iV (l4 + 1)]) (pc := 42) (dec_at lsk_247 (k := 27) rfl) rfl (by decide) rfl ?_
      refine u_goto (pc := 45) (tgt := 3) (dec_at lsk_247 (k := 28) rfl) rfl ?_
      exact h
  · have h := ifF e5 h
    refine u_ld (v := iV 0) (pc := 48) (dec_at lsk_247 (k := 29) rfl) rfl ?_
    exact u_rZ (pc := 49) (dec_at lsk_247 (k := 30) rfl) rfl (by decide) h
/-- method 248 -/
def K_248 (d pc : Nat) (lv : ev_L) (st : List Value) (u : uS) (Q : Int → uS → Prop) : Prop := okU d 12 8 false (some .long) prog_14_method_41_code (qL Q) pc lv st u
theorem e_248 {d : Nat} {Q : Int → uS → Prop} {u : uS} {l1 l2 l4 : Int} (h : K_248 d 6 [.ref 271, iV l1, lV l2, .retAddr 0, iV l4, lV 0, .retAddr 0, iV 0] [] u Q) : cL (d + 1) 248 [.ref 271, iV l1, lV l2, iV l4] u Q := by
  refine u_of me_248 (Nat.le_of_ble_eq_true rfl) ?_
  refine u_cl (x := 0) (pc := 0) (dec_at lsk_248 (k := 0) rfl) rfl (by decide) ?_
  refine u_sto (lv' := [.ref 271, iV l1, lV l2, .retAddr 0, iV l4, lV 0, .retAddr 0, .retAddr 0]) (pc := 1) (dec_at lsk_248 (k := 1) rfl) rfl ?_
  refine u_ld (v := iV 0) (pc := 3) (dec_at lsk_248 (k := 2) rfl) rfl ?_
  refine u_sto (lv' := [.ref 271, iV l1, lV l2, .retAddr 0, iV l4, lV 0, .retAddr 0, iV 0]) (pc := 4) (dec_at lsk_248 (k := 3) rfl) rfl ?_
  exact h
theorem k_248_6 {d : Nat} {Q : Int → uS → Prop} {u : uS} {l1 l2 l4 l5 l7 : Int} (h : (0 ≤ l1) ∧ ((l1 < 100) ∧ ((rI l7) ∧ ((rI (u.1 301 l1)) ∧ (if l7 < u.1 301 l1 then (if land (lshr l2 l7) 1 = 1 then ((0 ≤ ((400 * l1) + (10 * l7)) + l4) ∧ ((((400 * l1) + (10 * l7)) + l4 < 40000) ∧ (K_248 d 6 [.ref 271, iV l1, lV l2, .retAddr 0, iV l4, lV (lor l5 (lshl 1 (u.1 302 (((400 * l1) + (10 * l7)) + l4)))), .retAddr 0, iV (l7 + 1)] [] u Q))) else (K_248 d 6 [.ref 271, iV l1, lV l2, .retAddr 0, iV l4, lV (lor l5 0), .retAddr 0, iV (l7 + 1)] [] u Q)) else (Q l5 u)))))) : K_248 d 6 [.ref 271, iV l1, lV l2, .retAddr 0, iV l4, lV l5, .retAddr 0, iV l7] [] u Q := by
  unfold K_248
  refine u_ld (v := iV l7) (pc := 6) (dec_at lsk_248 (k := 4) rfl) rfl ?_
  refine u_ld (v := .ref 271) (pc := 8) (dec_at lsk_248 (k := 5) rfl) rfl ?_
  refine u_gS (o := 30) (p := 301) (pc := 9) (dec_at lsk_248 (k := 6) rfl) f_12_99 sx_271 rfl rfl ?_
  refine u_ld (v := iV l1) (pc := 12) (dec_at lsk_248 (k := 7) rfl) rfl ?_
  have g1 := h.1
  have h := h.2
  have g2 := h.1
  have h := h.2
  refine u_iald (pc := 13) (dec_at lsk_248 (k := 8) rfl) sx_301 g1 g2 ?_
  have g3 := h.1
  have h := h.2
  have g4 := h.1
  have h := h.2
  refine u_icF (pc := 14) (tgt := 64) (dec_at lsk_248 (k := 9) rfl) rfl (ci_ge g3 g4) (fun e5 => ?_) (fun e5 => ?_)
  · have h := ifT e5 h
    refine u_ld (v := lV l5) (pc := 17) (dec_at lsk_248 (k := 10) rfl) rfl ?_
    refine u_ld (v := lV l2) (pc := 19) (dec_at lsk_248 (k := 11) rfl) rfl ?_
    refine u_ld (v := iV l7) (pc := 20) (dec_at lsk_248 (k := 12) rfl) rfl ?_
    refine u_lshr (pc := 22) (dec_at lsk_248 (k := 13) rfl) ?_
    refine u_cl (x := 1) (pc := 23) (dec_at lsk_248 (k := 14) rfl) rfl (by decide) ?_
    refine u_land (pc := 24) (dec_at lsk_248 (k := 15) rfl) ?_
    refine u_cl (x := 1) (pc := 25) (dec_at lsk_248 (k := 16) rfl) rfl (by decide) ?_
    refine u_st (st' := [.int (lg_cmp (Int64.ofInt (land (lshr l2 l7) 1)) (Int64.ofInt 1)), lV l5]) (pc := 26) (dec_at lsk_248 (k := 17) rfl) rfl ?_
    refine u_ifF (pc := 27) (tgt := 54) (dec_at lsk_248 (k := 18) rfl) rfl (cl_ne (rl_toInt _) (by decide)) (fun e6 => ?_) (fun e6 => ?_)
    · have h := ifT e6 h
      refine u_cl (x := 1) (pc := 30) (dec_at lsk_248 (k := 19) rfl) rfl (by decide) ?_
      refine u_ld (v := .ref 271) (pc := 31) (dec_at lsk_248 (k := 20) rfl) rfl ?_
      refine u_gS (o := 31) (p := 302) (pc := 32) (dec_at lsk_248 (k := 21) rfl) f_12_103 sx_271 rfl rfl ?_
      refine u_c (x := 400) (pc := 35) (dec_at lsk_248 (k := 22) rfl) rfl (by decide) ?_
      refine u_ld (v := iV l1) (pc := 38) (dec_at lsk_248 (k := 23) rfl) rfl ?_
      refine u_imul (pc := 39) (dec_at lsk_248 (k := 24) rfl) ?_
      refine u_c (x := 10) (pc := 40) (dec_at lsk_248 (k := 25) rfl) rfl (by decide) ?_
      refine u_ld (v := iV l7) (pc := 42) (dec_at lsk_248 (k := 26) rfl) rfl ?_
      refine u_imul (pc := 44) (dec_at lsk_248 (k := 27) rfl) ?_
      refine u_iadd (pc := 45) (dec_at lsk_248 (k := 28) rfl) ?_
      refine u_ld (v := iV l4) (pc := 46) (dec_at lsk_248 (k := 29) rfl) rfl ?_
      refine u_iadd (pc := 48) (dec_at lsk_248 (k := 30) rfl) ?_
      have g7 := h.1
      have h := h.2
      have g8 := h.1
      have h := h.2
      refine u_iald (pc := 49) (dec_at lsk_248 (k := 31) rfl) sx_302 g7 g8 ?_
      refine u_lshl (pc := 50) (dec_at lsk_248 (k := 32) rfl) ?_
      refine u_goto (pc := 51) (tgt := 55) (dec_at lsk_248 (k := 33) rfl) rfl ?_
      refine u_lor (pc := 55) (dec_at lsk_248 (k := 35) rfl) ?_
      refine u_sto (lv' := [.ref 271, iV l1, lV l2, .retAddr 0, iV l4, lV (lor l5 (lshl 1 (u.1 302 (((400 * l1) + (10 * l7)) + l4)))), .retAddr 0, iV l7]) (pc := 56) (dec_at lsk_248 (k := 36) rfl) rfl ?_
      refine u_inc (lv' := [.ref 271, iV l1, lV l2, .retAddr 0, iV l4, lV (lor l5 (lshl 1 (u.1 302 (((400 * l1) + (10 * l7)) + l4)))), .retAddr 0, iV (l7 + 1)]) (pc := 58) (dec_at lsk_248 (k := 37) rfl) rfl (by decide) rfl ?_
      refine u_goto (pc := 61) (tgt := 6) (dec_at lsk_248 (k := 38) rfl) rfl ?_
      exact h
    · have h := ifF e6 h
      refine u_cl (x := 0) (pc := 54) (dec_at lsk_248 (k := 34) rfl) rfl (by decide) ?_
      refine u_lor (pc := 55) (dec_at lsk_248 (k := 35) rfl) ?_
      refine u_sto (lv' := [.ref 271, iV l1, lV l2, .retAddr 0, iV l4, lV (lor l5 0), .retAddr 0, iV l7]) (pc := 56) (dec_at lsk_248 (k := 36) rfl) rfl ?_
      refine u_inc (lv' := [.ref 271, iV l1, lV l2, .retAddr 0, iV l4, lV (lor l5 0), .retAddr 0, iV (l7 + 1)]) (pc := 58) (dec_at lsk_248 (k := 37) rfl) rfl (by decide) rfl ?_
      refine u_goto (pc := 61) (tgt := 6) (dec_at lsk_248 (k := 38) rfl) rfl ?_
      exact h
  · have h := ifF e5 h
    refine u_ld (v := lV l5) (pc := 64) (dec_at lsk_248 (k := 39) rfl) rfl ?_
    exact u_rL (pc := 66) (dec_at lsk_248 (k := 40) rfl) rfl h
/-- method 249 -/
def K_249 (d pc : Nat) (lv : ev_L) (st : List Value) (u : uS) (Q : uS → Prop) : Prop := okU d 12 4 false none prog_14_method_49_code (qV Q) pc lv st u
theorem e_249 {d : Nat} {Q : uS → Prop} {u : uS} {l1 : Int} (h : (rI (u.1 271 43)) ∧ (if u.1 271 43 = 0 then (K_249 d 10 [.ref 271, iV l1, iV 0, .retAddr 0] [] u Q) else (Q u))) : cV (d + 1) 249 [.ref 271, iV l1] u Q := by
  refine u_of me_249 (Nat.le_of_ble_eq_true rfl) ?_
  refine u_ld (v := .ref 271) (pc := 0) (dec_at lsk_249 (k := 0) rfl) rfl ?_
  refine u_gZ (z := 43) (pc := 1) (dec_at lsk_249 (k := 1) rfl) f_12_394 sx_271 rfl rfl ?_
  have g1 := h.1
  have h := h.2
  refine u_ifT (pc := 4) (tgt := 8) (dec_at lsk_249 (k := 2) rfl) rfl (c0_eq g1) (fun e2 => ?_) (fun e2 => ?_)
  · have h := ifT e2 h
    refine u_ld (v := iV 0) (pc := 8) (dec_at lsk_249 (k := 4) rfl) rfl ?_
    refine u_sto (lv' := [.ref 271, iV l1, iV 0, .retAddr 0]) (pc := 9) (dec_at lsk_249 (k := 5) rfl) rfl ?_
    exact h
  · have h := ifF e2 h
    exact u_rV (pc := 7) (dec_at lsk_249 (k := 3) rfl) rfl h
theorem k_249_10 {d : Nat} {Q : uS → Prop} {u : uS} {l1 l2 : Int} (h : (rI l2) ∧ ((rI (u.1 271 44)) ∧ (if l2 < u.1 271 44 then ((0 ≤ l2) ∧ ((l2 < 2001) ∧ ((rI (u.1 307 l2)) ∧ (if u.1 307 l2 = 0 then (∀ u8 : uS, u8 = wr u 309 l2 0 → (K_249 d 10 [.ref 271, iV l1, iV (l2 + 1), .retAddr 0] [] u8 Q)) else (∀ u10 : uS, u10 = wr u 309 l2 1 → (K_249 d 10 [.ref 271, iV l1, iV (l2 + 1), .retAddr 0] [] u10 Q)))))) else (cI d 250 [.ref 271] u (fun r13 u12 => K_249 d 51 [.ref 271, iV l1, iV 0, iV r13] [] u12 Q))))) : K_249 d 10 [.ref 271, iV l1, iV l2, .retAddr 0] [] u Q := by
  unfold K_249
  refine u_ld (v := iV l2) (pc := 10) (dec_at lsk_249 (k := 6) rfl) rfl ?_
  refine u_ld (v := .ref 271) (pc := 11) (dec_at lsk_249 (k := 7) rfl) rfl ?_
  refine u_gI (z := 44) (pc := 12) (dec_at lsk_249 (k := 8) rfl) f_12_384 sx_271 rfl rfl ?_
  have g1 := h.1
  have h := h.2
  have g2 := h.1
  have h := h.2
  refine u_icF (pc := 15) (tgt := 44) (dec_at lsk_249 (k := 9) rfl) rfl (ci_ge g1 g2) (fun e3 => ?_) (fun e3 => ?_)
  · have h := ifT e3 h
    refine u_ld (v := .ref 271) (pc := 18) (dec_at lsk_249 (k := 10) rfl) rfl ?_
    refine u_gS (o := 38) (p := 309) (pc := 19) (dec_at lsk_249 (k := 11) rfl) f_12_124 sx_271 rfl rfl ?_
    refine u_ld (v := iV l2) (pc := 22) (dec_at lsk_249 (k := 12) rfl) rfl ?_
    refine u_ld (v := .ref 271) (pc := 23) (dec_at lsk_249 (k := 13) rfl) rfl ?_
    refine u_gS (o := 36) (p := 307) (pc := 24) (dec_at lsk_249 (k := 14) rfl) f_12_118 sx_271 rfl rfl ?_
    refine u_ld (v := iV l2) (pc := 27) (dec_at lsk_249 (k := 15) rfl) rfl ?_
    have g4 := h.1
    have h := h.2
    have g5 := h.1
    have h := h.2
    refine u_zald (pc := 28) (dec_at lsk_249 (k := 16) rfl) sx_307 g4 g5 ?_
    have g6 := h.1
    have h := h.2
    refine u_ifT (pc := 29) (tgt := 36) (dec_at lsk_249 (k := 17) rfl) rfl (c0_eq g6) (fun e7 => ?_) (fun e7 => ?_)
    · have h := ifT e7 h
      refine u_ld (v := iV 0) (pc := 36) (dec_at lsk_249 (k := 20) rfl) rfl ?_
      refine u_iast (pc := 37) (dec_at lsk_249 (k := 21) rfl) sx_309 g4 g5 (fun u8 e9 => ?_)
      have h := h u8 e9
      refine u_inc (lv' := [.ref 271, iV l1, iV (l2 + 1), .retAddr 0]) (pc := 38) (dec_at lsk_249 (k := 22) rfl) rfl (by decide) rfl ?_
      refine u_goto (pc := 41) (tgt := 10) (dec_at lsk_249 (k := 23) rfl) rfl ?_
      exact h
    · have h := ifF e7 h
      refine u_ld (v := iV 1) (pc := 32) (dec_at lsk_249 (k := 18) rfl) rfl ?_
      refine u_goto (pc := 33) (tgt := 37) (dec_at lsk_249 (k := 19) rfl) rfl ?_
      refine u_iast (pc := 37) (dec_at lsk_249 (k := 21) rfl) sx_309 g4 g5 (fun u10 e11 => ?_)
      have h := h u10 e11
      refine u_inc (lv' := [.ref 271, iV l1, iV (l2 + 1), .retAddr 0]) (pc := 38) (dec_at lsk_249 (k := 22) rfl) rfl (by decide) rfl ?_
      refine u_goto (pc := 41) (tgt := 10) (dec_at lsk_249 (k := 23) rfl) rfl ?_
      exact h
  · have h := ifF e3 h
    refine u_ld (v := iV 0) (pc := 44) (dec_at lsk_249 (k := 24) rfl) rfl ?_
    refine u_sto (lv' := [.ref 271, iV l1, iV 0, .retAddr 0]) (pc := 45) (dec_at lsk_249 (k := 25) rfl) rfl ?_
    refine u_ld (v := .ref 271) (pc := 46) (dec_at lsk_249 (k := 26) rfl) rfl ?_
    refine u_cvI (As := []) (rb := 271) (st2 := []) (pc := 47) (dec_at lsk_249 (k := 27) rfl) m_12_412 (Or.inl rfl) rfl (Nat.le_of_ble_eq_true rfl) sx_271 me_250 rfl h (fun r13 u12 h => ?_)
    refine u_sto (lv' := [.ref 271, iV l1, iV 0, iV r13]) (pc := 50) (dec_at lsk_249 (k := 28) rfl) rfl ?_
    exact h
theorem k_249_51 {d : Nat} {Q : uS → Prop} {u : uS} {l1 l2 l3 : Int} (h : (rI l3) ∧ ((rI l2) ∧ (if l2 < l3 then (if l3 < 41 then (cI d 250 [.ref 271] u (fun r6 u5 => K_249 d 51 [.ref 271, iV l1, iV l3, iV r6] [] u5 Q)) else (if 40 < l3 then (∀ u8 : uS, u8 = wr u 271 43 1 → (Q u8)) else (cV d 252 [.ref 271, iV l1, iV l3] u (fun u10 => Q u10)))) else (if 40 < l3 then (∀ u12 : uS, u12 = wr u 271 43 1 → (Q u12)) else (cV d 252 [.ref 271, iV l1, iV l3] u (fun u14 => Q u14)))))) : K_249 d 51 [.ref 271, iV l1, iV l2, iV l3] [] u Q := by
  unfold K_249
  refine u_ld (v := iV l3) (pc := 51) (dec_at lsk_249 (k := 29) rfl) rfl ?_
  refine u_ld (v := iV l2) (pc := 52) (dec_at lsk_249 (k := 30) rfl) rfl ?_
  have g1 := h.1
  have h := h.2
  have g2 := h.1
  have h := h.2
  refine u_icF (pc := 53) (tgt := 72) (dec_at lsk_249 (k := 31) rfl) rfl (ci_le g1 g2) (fun e3 => ?_) (fun e3 => ?_)
  · have h := ifT e3 h
    refine u_ld (v := iV l3) (pc := 56) (dec_at lsk_249 (k := 32) rfl) rfl ?_
    refine u_c (x := 41) (pc := 57) (dec_at lsk_249 (k := 33) rfl) rfl (by decide) ?_
    refine u_icF (pc := 59) (tgt := 72) (dec_at lsk_249 (k := 34) rfl) rfl (ci_ge g1 (by decide)) (fun e4 => ?_) (fun e4 => ?_)
    · have h := ifT e4 h
      refine u_ld (v := iV l3) (pc := 62) (dec_at lsk_249 (k := 35) rfl) rfl ?_
      refine u_sto (lv' := [.ref 271, iV l1, iV l3, iV l3]) (pc := 63) (dec_at lsk_249 (k := 36) rfl) rfl ?_
      refine u_ld (v := .ref 271) (pc := 64) (dec_at lsk_249 (k := 37) rfl) rfl ?_
      refine u_cvI (As := []) (rb := 271) (st2 := []) (pc := 65) (dec_at lsk_249 (k := 38) rfl) m_12_412 (Or.inl rfl) rfl (Nat.le_of_ble_eq_true rfl) sx_271 me_250 rfl h (fun r6 u5 h => ?_)
      refine u_sto (lv' := [.ref 271, iV l1, iV l3, iV r6]) (pc := 68) (dec_at lsk_249 (k := 39) rfl) rfl ?_
      refine u_goto (pc := 69) (tgt := 51) (dec_at lsk_249 (k := 40) rfl) rfl ?_
      exact h
    · have h := ifF e4 h
      refine u_ld (v := iV l3) (pc := 72) (dec_at lsk_249 (k := 41) rfl) rfl ?_
      refine u_c (x := 40) (pc := 73) (dec_at lsk_249 (k := 42) rfl) rfl (by decide) ?_
      refine u_icF (pc := 75) (tgt := 84) (dec_at lsk_249 (k := 43) rfl) rfl (ci_le g1 (by decide)) (fun e7 => ?_) (fun e7 => ?_)
      · have h := ifT e7 h
        refine u_ld (v := .ref 271) (pc := 78) (dec_at lsk_249 (k := 44) rfl) rfl ?_
        refine u_ld (v := iV 1) (pc := 79) (dec_at lsk_249 (k := 45) rfl) rfl ?_
        refine u_pZ (z := 43) (pc := 80) (dec_at lsk_249 (k := 46) rfl) f_12_394 sx_271 rfl rfl rfl rfl (by decide) (fun u8 e9 => ?_)
        have h := h u8 e9
        exact u_rV (pc := 83) (dec_at lsk_249 (k := 47) rfl) rfl h
      · have h := ifF e7 h
        refine u_ld (v := .ref 271) (pc := 84) (dec_at lsk_249 (k := 48) rfl) rfl ?_
        refine u_ld (v := iV l1) (pc := 85) (dec_at lsk_249 (k := 49) rfl) rfl ?_
        refine u_ld (v := iV l3) (pc := 86) (dec_at lsk_249 (k := 50) rfl) rfl ?_
        refine u_cvV (As := [iV l1, iV l3]) (rb := 271) (st2 := []) (pc := 87) (dec_at lsk_249 (k := 51) rfl) m_12_415 (Or.inl rfl) rfl (Nat.le_of_ble_eq_true rfl) sx_271 me_252 rfl h (fun u10 h => ?_)
        exact u_rV (pc := 90) (dec_at lsk_249 (k := 52) rfl) rfl h
  · have h := ifF e3 h
    refine u_ld (v := iV l3) (pc := 72) (dec_at lsk_249 (k := 41) rfl) rfl ?_
    refine u_c (x := 40) (pc := 73) (dec_at lsk_249 (k := 42) rfl) rfl (by decide) ?_
    refine u_icF (pc := 75) (tgt := 84) (dec_at lsk_249 (k := 43) rfl) rfl (ci_le g1 (by decide)) (fun e11 => ?_) (fun e11 => ?_)
    · have h := ifT e11 h
      refine u_ld (v := .ref 271) (pc := 78) (dec_at lsk_249 (k := 44) rfl) rfl ?_
      refine u_ld (v := iV 1) (pc := 79) (dec_at lsk_249 (k := 45) rfl) rfl ?_
      refine u_pZ (z := 43) (pc := 80) (dec_at lsk_249 (k := 46) rfl) f_12_394 sx_271 rfl rfl rfl rfl (by decide) (fun u12 e13 => ?_)
      have h := h u12 e13
      exact u_rV (pc := 83) (dec_at lsk_249 (k := 47) rfl) rfl h
    · have h := ifF e11 h
      refine u_ld (v := .ref 271) (pc := 84) (dec_at lsk_249 (k := 48) rfl) rfl ?_
      refine u_ld (v := iV l1) (pc := 85) (dec_at lsk_249 (k := 49) rfl) rfl ?_
      refine u_ld (v := iV l3) (pc := 86) (dec_at lsk_249 (k := 50) rfl) rfl ?_
      refine u_cvV (As := [iV l1, iV l3]) (rb := 271) (st2 := []) (pc := 87) (dec_at lsk_249 (k := 51) rfl) m_12_415 (Or.inl rfl) rfl (Nat.le_of_ble_eq_true rfl) sx_271 me_252 rfl h (fun u14 h => ?_)
      exact u_rV (pc := 90) (dec_at lsk_249 (k := 52) rfl) rfl h
/-- method 250 -/
def K_250 (d pc : Nat) (lv : ev_L) (st : List Value) (u : uS) (Q : Int → uS → Prop) : Prop := okU d 12 5 false (some .int) prog_14_method_48_code (qI Q) pc lv st u
theorem e_250 {d : Nat} {Q : Int → uS → Prop} {u : uS} (h : K_250 d 4 [.ref 271, iV 0, iV 0, .retAddr 0, .retAddr 0] [] u Q) : cI (d + 1) 250 [.ref 271] u Q := by
  refine u_of me_250 (Nat.le_of_ble_eq_true rfl) ?_
  refine u_ld (v := iV 0) (pc := 0) (dec_at lsk_250 (k := 0) rfl) rfl ?_
  refine u_sto (lv' := [.ref 271, iV 0, .retAddr 0, .retAddr 0, .retAddr 0]) (pc := 1) (dec_at lsk_250 (k := 1) rfl) rfl ?_
  refine u_ld (v := iV 0) (pc := 2) (dec_at lsk_250 (k := 2) rfl) rfl ?_
  refine u_sto (lv' := [.ref 271, iV 0, iV 0, .retAddr 0, .retAddr 0]) (pc := 3) (dec_at lsk_250 (k := 3) rfl) rfl ?_
  exact h
theorem k_250_4 {d : Nat} {Q : Int → uS → Prop} {u : uS} {l1 l2 : Int} (h : (rI l2) ∧ ((rI (u.1 271 44)) ∧ (if l2 < u.1 271 44 then (K_250 d 18 [.ref 271, iV l1, iV l2, iV (-2), iV 0] [] u Q) else (K_250 d 101 [.ref 271, iV l1, iV 0, .retAddr 0, .retAddr 0] [] u Q)))) : K_250 d 4 [.ref 271, iV l1, iV l2, .retAddr 0, .retAddr 0] [] u Q := by
  unfold K_250
  refine u_ld (v := iV l2) (pc := 4) (dec_at lsk_250 (k := 4) rfl) rfl ?_
  refine u_ld (v := .ref 271) (pc := 5) (dec_at lsk_250 (k := 5) rfl) rfl ?_
  refine u_gI (z := 44) (pc := 6) (dec_at lsk_250 (k := 6) rfl) f_12_384 sx_271 rfl rfl ?_
  have g1 := h.1
  have h := h.2
  have g2 := h.1
  have h := h.2
  refine u_icF (pc := 9) (tgt := 99) (dec_at lsk_250 (k := 7) rfl) rfl (ci_ge g1 g2) (fun e3 => ?_) (fun e3 => ?_)
  · have h := ifT e3 h
    refine u_c (x := (-2)) (pc := 12) (dec_at lsk_250 (k := 8) rfl) rfl (by decide) ?_
    refine u_sto (lv' := [.ref 271, iV l1, iV l2, iV (-2), .retAddr 0]) (pc := 14) (dec_at lsk_250 (k := 9) rfl) rfl ?_
    refine u_ld (v := iV 0) (pc := 15) (dec_at lsk_250 (k := 10) rfl) rfl ?_
    refine u_sto (lv' := [.ref 271, iV l1, iV l2, iV (-2), iV 0]) (pc := 16) (dec_at lsk_250 (k := 11) rfl) rfl ?_
    exact h
  · have h := ifF e3 h
    refine u_ld (v := iV 0) (pc := 99) (dec_at lsk_250 (k := 55) rfl) rfl ?_
    refine u_sto (lv' := [.ref 271, iV l1, iV 0, .retAddr 0, .retAddr 0]) (pc := 100) (dec_at lsk_250 (k := 56) rfl) rfl ?_
    exact h
theorem k_250_18 {d : Nat} {Q : Int → uS → Prop} {u : uS} {l1 l2 l3 l4 : Int} (h : (rI l4) ∧ ((rI l1) ∧ (if l4 < l1 then ((rI l3) ∧ (if l3 = (-2) then ((0 ≤ l4) ∧ ((l4 < 42) ∧ (cI d 251 [.ref 271, iV l2, iV (u.1 311 l4)] u (fun r9 u8 => (rI r9) ∧ (if r9 = 0 then (K_250 d 18 [.ref 271, iV l1, iV l2, iV (-2), iV (l4 + 1)] [] u8 Q) else (K_250 d 18 [.ref 271, iV l1, iV l2, iV l4, iV (l4 + 1)] [] u8 Q)))))) else ((0 ≤ l2) ∧ ((l2 < 2001) ∧ (∀ u15 : uS, u15 = wr u 310 l2 l3 → (K_250 d 4 [.ref 271, iV l1, iV (l2 + 1), .retAddr 0, .retAddr 0] [] u15 Q)))))) else ((rI l3) ∧ (if l3 = (-2) then (if l1 = 41 then (Q 41 u) else ((0 ≤ l1) ∧ ((l1 < 42) ∧ (∀ u22 : uS, u22 = wr u 311 l1 l2 → ((0 ≤ l2) ∧ ((l2 < 2001) ∧ (∀ u26 : uS, u26 = wr u22 310 l2 l1 → (K_250 d 4 [.ref 271, iV (l1 + 1), iV (l2 + 1), .retAddr 0, .retAddr 0] [] u26 Q)))))))) else ((0 ≤ l2) ∧ ((l2 < 2001) ∧ (∀ u30 : uS, u30 = wr u 310 l2 l3 → (K_250 d 4 [.ref 271, iV l1, iV (l2 + 1), .retAddr 0, .retAddr 0] [] u30 Q))))))))) : K_250 d 18 [.ref 271, iV l1, iV l2, iV l3, iV l4] [] u Q := by
  unfold K_250
  refine u_ld (v := iV l4) (pc := 18) (dec_at lsk_250 (k := 12) rfl) rfl ?_
  refine u_ld (v := iV l1) (pc := 20) (dec_at lsk_250 (k := 13) rfl) rfl ?_
  have g1 := h.1
  have h := h.2
  have g2 := h.1
  have h := h.2
  refine u_icF (pc := 21) (tgt := 59) (dec_at lsk_250 (k := 14) rfl) rfl (ci_ge g1 g2) (fun e3 => ?_) (fun e3 => ?_)
  · have h := ifT e3 h
    refine u_ld (v := iV l3) (pc := 24) (dec_at lsk_250 (k := 15) rfl) rfl ?_
    refine u_c (x := (-2)) (pc := 25) (dec_at lsk_250 (k := 16) rfl) rfl (by decide) ?_
    have g4 := h.1
    have h := h.2
    refine u_icF (pc := 27) (tgt := 59) (dec_at lsk_250 (k := 17) rfl) rfl (ci_ne g4 (by decide)) (fun e5 => ?_) (fun e5 => ?_)
    · have h := ifT e5 h
      refine u_ld (v := .ref 271) (pc := 30) (dec_at lsk_250 (k := 18) rfl) rfl ?_
      refine u_ld (v := iV l2) (pc := 31) (dec_at lsk_250 (k := 19) rfl) rfl ?_
      refine u_ld (v := .ref 271) (pc := 32) (dec_at lsk_250 (k := 20) rfl) rfl ?_
      refine u_gS (o := 40) (p := 311) (pc := 33) (dec_at lsk_250 (k := 21) rfl) f_12_130 sx_271 rfl rfl ?_
      refine u_ld (v := iV l4) (pc := 36) (dec_at lsk_250 (k := 22) rfl) rfl ?_
      have g6 := h.1
      have h := h.2
      have g7 := h.1
      have h := h.2
      refine u_iald (pc := 38) (dec_at lsk_250 (k := 23) rfl) sx_311 g6 g7 ?_
      refine u_cvI (As := [iV l2, iV (u.1 311 l4)]) (rb := 271) (st2 := []) (pc := 39) (dec_at lsk_250 (k := 24) rfl) m_12_409 (Or.inl rfl) rfl (Nat.le_of_ble_eq_true rfl) sx_271 me_251 rfl h (fun r9 u8 h => ?_)
      have g10 := h.1
      have h := h.2
      refine u_ifT (pc := 42) (tgt := 50) (dec_at lsk_250 (k := 25) rfl) rfl (c0_eq g10) (fun e11 => ?_) (fun e11 => ?_)
      · have h := ifT e11 h
        refine u_c (x := (-2)) (pc := 50) (dec_at lsk_250 (k := 28) rfl) rfl (by decide) ?_
        refine u_sto (lv' := [.ref 271, iV l1, iV l2, iV (-2), iV l4]) (pc := 52) (dec_at lsk_250 (k := 29) rfl) rfl ?_
        refine u_inc (lv' := [.ref 271, iV l1, iV l2, iV (-2), iV (l4 + 1)]) (pc := 53) (dec_at lsk_250 (k := 30) rfl) rfl (by decide) rfl ?_
        refine u_goto (pc := 56) (tgt := 18) (dec_at lsk_250 (k := 31) rfl) rfl ?_
        exact h
      · have h := ifF e11 h
        refine u_ld (v := iV l4) (pc := 45) (dec_at lsk_250 (k := 26) rfl) rfl ?_
        refine u_goto (pc := 47) (tgt := 52) (dec_at lsk_250 (k := 27) rfl) rfl ?_
        refine u_sto (lv' := [.ref 271, iV l1, iV l2, iV l4, iV l4]) (pc := 52) (dec_at lsk_250 (k := 29) rfl) rfl ?_
        refine u_inc (lv' := [.ref 271, iV l1, iV l2, iV l4, iV (l4 + 1)]) (pc := 53) (dec_at lsk_250 (k := 30) rfl) rfl (by decide) rfl ?_
        refine u_goto (pc := 56) (tgt := 18) (dec_at lsk_250 (k := 31) rfl) rfl ?_
        exact h
    · have h := ifF e5 h
      refine u_ld (v := iV l3) (pc := 59) (dec_at lsk_250 (k := 32) rfl) rfl ?_
      refine u_c (x := (-2)) (pc := 60) (dec_at lsk_250 (k := 33) rfl) rfl (by decide) ?_
      refine u_icF (pc := 62) (tgt := 86) (dec_at lsk_250 (k := 34) rfl) rfl (ci_ne g4 (by decide)) (fun e12 => absurd e12 e5) (fun _ => ?_)
      refine u_ld (v := .ref 271) (pc := 86) (dec_at lsk_250 (k := 48) rfl) rfl ?_
      refine u_gS (o := 39) (p := 310) (pc := 87) (dec_at lsk_250 (k := 49) rfl) f_12_127 sx_271 rfl rfl ?_
      refine u_ld (v := iV l2) (pc := 90) (dec_at lsk_250 (k := 50) rfl) rfl ?_
      refine u_ld (v := iV l3) (pc := 91) (dec_at lsk_250 (k := 51) rfl) rfl ?_
      have g13 := h.1
      have h := h.2
      have g14 := h.1
      have h := h.2
      refine u_iast (pc := 92) (dec_at lsk_250 (k := 52) rfl) sx_310 g13 g14 (fun u15 e16 => ?_)
      have h := h u15 e16
      refine u_inc (lv' := [.ref 271, iV l1, iV (l2 + 1), iV l3, iV l4]) (pc := 93) (dec_at lsk_250 (k := 53) rfl) rfl (by decide) rfl ?_
      refine u_goto (pc := 96) (tgt := 4) (dec_at lsk_250 (k := 54) rfl) rfl ?_
      exact u_weak (sbK (sbK (sbK (sbD (sbD sb0))))) h
  · have h := ifF e3 h
    refine u_ld (v := iV l3) (pc := 59) (dec_at lsk_250 (k := 32) rfl) rfl ?_
    refine u_c (x := (-2)) (pc := 60) (dec_at lsk_250 (k := 33) rfl) rfl (by decide) ?_
    have g17 := h.1
    have h := h.2
    refine u_icF (pc := 62) (tgt := 86) (dec_at lsk_250 (k := 34) rfl) rfl (ci_ne g17 (by decide)) (fun e18 => ?_) (fun e18 => ?_)
    · have h := ifT e18 h
      refine u_ld (v := iV l1) (pc := 65) (dec_at lsk_250 (k := 35) rfl) rfl ?_
      refine u_c (x := 41) (pc := 66) (dec_at lsk_250 (k := 36) rfl) rfl (by decide) ?_
      refine u_icF (pc := 68) (tgt := 74) (dec_at lsk_250 (k := 37) rfl) rfl (ci_ne g2 (by decide)) (fun e19 => ?_) (fun e19 => ?_)
      · have h := ifT e19 h
        refine u_c (x := 41) (pc := 71) (dec_at lsk_250 (k := 38) rfl) rfl (by decide) ?_
        exact u_rI (pc := 73) (dec_at lsk_250 (k := 39) rfl) rfl h
      · have h := ifF e19 h
        refine u_ld (v := .ref 271) (pc := 74) (dec_at lsk_250 (k := 40) rfl) rfl ?_
        refine u_gS (o := 40) (p := 311) (pc := 75) (dec_at lsk_250 (k := 41) rfl) f_12_130 sx_271 rfl rfl ?_
        refine u_ld (v := iV l1) (pc := 78) (dec_at lsk_250 (k := 42) rfl) rfl ?_
        refine u_ld (v := iV l2) (pc := 79) (dec_at lsk_250 (k := 43) rfl) rfl ?_
        have g20 := h.1
        have h := h.2
        have g21 := h.1
        have h := h.2
        refine u_iast (pc := 80) (dec_at lsk_250 (k := 44) rfl) sx_311 g20 g21 (fun u22 e23 => ?_)
        have h := h u22 e23
        refine u_ld (v := iV l1) (pc := 81) (dec_at lsk_250 (k := 45) rfl) rfl ?_
        refine u_sto (lv' := [.ref 271, iV l1, iV l2, iV l1, iV l4]) (pc := 82) (dec_at lsk_250 (k := 46) rfl) rfl ?_
        refine u_inc (lv' := [.ref 271, iV (l1 + 1), iV l2, iV l1, iV l4]) (pc := 83) (dec_at lsk_250 (k := 47) rfl) rfl (by decide) rfl ?_
        refine u_ld (v := .ref 271) (pc := 86) (dec_at lsk_250 (k := 48) rfl) rfl ?_
        refine u_gS (o := 39) (p := 310) (pc := 87) (dec_at lsk_250 (k := 49) rfl) f_12_127 sx_271 rfl rfl ?_
        refine u_ld (v := iV l2) (pc := 90) (dec_at lsk_250 (k := 50) rfl) rfl ?_
        refine u_ld (v := iV l1) (pc := 91) (dec_at lsk_250 (k := 51) rfl) rfl ?_
        have g24 := h.1
        have h := h.2
        have g25 := h.1
        have h := h.2
        refine u_iast (pc := 92) (dec_at lsk_250 (k := 52) rfl) sx_310 g24 g25 (fun u26 e27 => ?_)
        have h := h u26 e27
        refine u_inc (lv' := [.ref 271, iV (l1 + 1), iV (l2 + 1), iV l1, iV l4]) (pc := 93) (dec_at lsk_250 (k := 53) rfl) rfl (by decide) rfl ?_
        refine u_goto (pc := 96) (tgt := 4) (dec_at lsk_250 (k := 54) rfl) rfl ?_
        exact u_weak (sbK (sbK (sbK (sbD (sbD sb0))))) h
    · have h := ifF e18 h
      refine u_ld (v := .ref 271) (pc := 86) (dec_at lsk_250 (k := 48) rfl) rfl ?_
      refine u_gS (o := 39) (p := 310) (pc := 87) (dec_at lsk_250 (k := 49) rfl) f_12_127 sx_271 rfl rfl ?_
      refine u_ld (v := iV l2) (pc := 90) (dec_at lsk_250 (k := 50) rfl) rfl ?_
      refine u_ld (v := iV l3) (pc := 91) (dec_at lsk_250 (k := 51) rfl) rfl ?_
      have g28 := h.1
      have h := h.2
      have g29 := h.1
      have h := h.2
      refine u_iast (pc := 92) (dec_at lsk_250 (k := 52) rfl) sx_310 g28 g29 (fun u30 e31 => ?_)
      have h := h u30 e31
      refine u_inc (lv' := [.ref 271, iV l1, iV (l2 + 1), iV l3, iV l4]) (pc := 93) (dec_at lsk_250 (k := 53) rfl) rfl (by decide) rfl ?_
      refine u_goto (pc := 96) (tgt := 4) (dec_at lsk_250 (k := 54) rfl) rfl ?_
      exact u_weak (sbK (sbK (sbK (sbD (sbD sb0))))) h
theorem k_250_101 {d : Nat} {Q : Int → uS → Prop} {u : uS} {l1 l2 : Int} (h : (rI l2) ∧ ((rI (u.1 271 44)) ∧ (if l2 < u.1 271 44 then ((0 ≤ l2) ∧ ((l2 < 2001) ∧ (∀ u6 : uS, u6 = wr u 309 l2 (u.1 310 l2) → (K_250 d 101 [.ref 271, iV l1, iV (l2 + 1), .retAddr 0, .retAddr 0] [] u6 Q)))) else (Q l1 u)))) : K_250 d 101 [.ref 271, iV l1, iV l2, .retAddr 0, .retAddr 0] [] u Q := by
  unfold K_250
  refine u_ld (v := iV l2) (pc := 101) (dec_at lsk_250 (k := 57) rfl) rfl ?_
  refine u_ld (v := .ref 271) (pc := 102) (dec_at lsk_250 (k := 58) rfl) rfl ?_
  refine u_gI (z := 44) (pc := 103) (dec_at lsk_250 (k := 59) rfl) f_12_384 sx_271 rfl rfl ?_
  have g1 := h.1
  have h := h.2
  have g2 := h.1
  have h := h.2
  refine u_icF (pc := 106) (tgt := 127) (dec_at lsk_250 (k := 60) rfl) rfl (ci_ge g1 g2) (fun e3 => ?_) (fun e3 => ?_)
  · have h := ifT e3 h
    refine u_ld (v := .ref 271) (pc := 109) (dec_at lsk_250 (k := 61) rfl) rfl ?_
    refine u_gS (o := 38) (p := 309) (pc := 110) (dec_at lsk_250 (k := 62) rfl) f_12_124 sx_271 rfl rfl ?_
    refine u_ld (v := iV l2) (pc := 113) (dec_at lsk_250 (k := 63) rfl) rfl ?_
    refine u_ld (v := .ref 271) (pc := 114) (dec_at lsk_250 (k := 64) rfl) rfl ?_
    refine u_gS (o := 39) (p := 310) (pc := 115) (dec_at lsk_250 (k := 65) rfl) f_12_127 sx_271 rfl rfl ?_
    refine u_ld (v := iV l2) (pc := 118) (dec_at lsk_250 (k := 66) rfl) rfl ?_
    have g4 := h.1
    have h := h.2
    have g5 := h.1
    have h := h.2
    refine u_iald (pc := 119) (dec_at lsk_250 (k := 67) rfl) sx_310 g4 g5 ?_
    refine u_iast (pc := 120) (dec_at lsk_250 (k := 68) rfl) sx_309 g4 g5 (fun u6 e7 => ?_)
    have h := h u6 e7
    refine u_inc (lv' := [.ref 271, iV l1, iV (l2 + 1), .retAddr 0, .retAddr 0]) (pc := 121) (dec_at lsk_250 (k := 69) rfl) rfl (by decide) rfl ?_
    refine u_goto (pc := 124) (tgt := 101) (dec_at lsk_250 (k := 70) rfl) rfl ?_
    exact h
  · have h := ifF e3 h
    refine u_ld (v := iV l1) (pc := 127) (dec_at lsk_250 (k := 71) rfl) rfl ?_
    exact u_rI (pc := 128) (dec_at lsk_250 (k := 72) rfl) rfl h
/-- method 251 -/
def K_251 (d pc : Nat) (lv : ev_L) (st : List Value) (u : uS) (Q : Int → uS → Prop) : Prop := okU d 12 4 false (some .boolean) prog_14_method_47_code (qI Q) pc lv st u
theorem e_251 {d : Nat} {Q : Int → uS → Prop} {u : uS} {l1 l2 : Int} (h : (0 ≤ l1) ∧ ((l1 < 2001) ∧ ((0 ≤ l2) ∧ ((l2 < 2001) ∧ ((rI (u.1 309 l1)) ∧ ((rI (u.1 309 l2)) ∧ (if u.1 309 l1 = u.1 309 l2 then (K_251 d 19 [.ref 271, iV l1, iV l2, iV 0] [] u Q) else (Q 0 u)))))))) : cI (d + 1) 251 [.ref 271, iV l1, iV l2] u Q := by
  refine u_of me_251 (Nat.le_of_ble_eq_true rfl) ?_
  refine u_ld (v := .ref 271) (pc := 0) (dec_at lsk_251 (k := 0) rfl) rfl ?_
  refine u_gS (o := 38) (p := 309) (pc := 1) (dec_at lsk_251 (k := 1) rfl) f_12_124 sx_271 rfl rfl ?_
  refine u_ld (v := iV l1) (pc := 4) (dec_at lsk_251 (k := 2) rfl) rfl ?_
  have g1 := h.1
  have h := h.2
  have g2 := h.1
  have h := h.2
  refine u_iald (pc := 5) (dec_at lsk_251 (k := 3) rfl) sx_309 g1 g2 ?_
  refine u_ld (v := .ref 271) (pc := 6) (dec_at lsk_251 (k := 4) rfl) rfl ?_
  refine u_gS (o := 38) (p := 309) (pc := 7) (dec_at lsk_251 (k := 5) rfl) f_12_124 sx_271 rfl rfl ?_
  refine u_ld (v := iV l2) (pc := 10) (dec_at lsk_251 (k := 6) rfl) rfl ?_
  have g3 := h.1
  have h := h.2
  have g4 := h.1
  have h := h.2
  refine u_iald (pc := 11) (dec_at lsk_251 (k := 7) rfl) sx_309 g3 g4 ?_
  have g5 := h.1
  have h := h.2
  have g6 := h.1
  have h := h.2
  refine u_icT (pc := 12) (tgt := 17) (dec_at lsk_251 (k := 8) rfl) rfl (ci_eq g5 g6) (fun e7 => ?_) (fun e7 => ?_)
  · have h := ifT e7 h
    refine u_ld (v := iV 0) (pc := 17) (dec_at lsk_251 (k := 11) rfl) rfl ?_
    refine u_sto (lv' := [.ref 271, iV l1, iV l2, iV 0]) (pc := 18) (dec_at lsk_251 (k := 12) rfl) rfl ?_
    exact h
  · have h := ifF e7 h
    refine u_ld (v := iV 0) (pc := 15) (dec_at lsk_251 (k := 9) rfl) rfl ?_
    exact u_rZ (pc := 16) (dec_at lsk_251 (k := 10) rfl) rfl (by decide) h
theorem k_251_19 {d : Nat} {Q : Int → uS → Prop} {u : uS} {l1 l2 l3 : Int} (h : (rI l3) ∧ (if l3 < 10 then ((0 ≤ (10 * l1) + l3) ∧ (((10 * l1) + l3 < 20010) ∧ ((0 ≤ u.1 306 ((10 * l1) + l3)) ∧ ((u.1 306 ((10 * l1) + l3) < 2001) ∧ ((0 ≤ (10 * l2) + l3) ∧ (((10 * l2) + l3 < 20010) ∧ ((0 ≤ u.1 306 ((10 * l2) + l3)) ∧ ((u.1 306 ((10 * l2) + l3) < 2001) ∧ ((rI (u.1 309 (u.1 306 ((10 * l1) + l3)))) ∧ ((rI (u.1 309 (u.1 306 ((10 * l2) + l3)))) ∧ (if u.1 309 (u.1 306 ((10 * l1) + l3)) = u.1 309 (u.1 306 ((10 * l2) + l3)) then (K_251 d 19 [.ref 271, iV l1, iV l2, iV (l3 + 1)] [] u Q) else (Q 0 u)))))))))))) else (Q 1 u))) : K_251 d 19 [.ref 271, iV l1, iV l2, iV l3] [] u Q := by
  unfold K_251
  refine u_ld (v := iV l3) (pc := 19) (dec_at lsk_251 (k := 13) rfl) rfl ?_
  refine u_c (x := 10) (pc := 20) (dec_at lsk_251 (k := 14) rfl) rfl (by decide) ?_
  have g1 := h.1
  have h := h.2
  refine u_icF (pc := 22) (tgt := 68) (dec_at lsk_251 (k := 15) rfl) rfl (ci_ge g1 (by decide)) (fun e2 => ?_) (fun e2 => ?_)
  · have h := ifT e2 h
    refine u_ld (v := .ref 271) (pc := 25) (dec_at lsk_251 (k := 16) rfl) rfl ?_
    refine u_gS (o := 38) (p := 309) (pc := 26) (dec_at lsk_251 (k := 17) rfl) f_12_124 sx_271 rfl rfl ?_
    refine u_ld (v := .ref 271) (pc := 29) (dec_at lsk_251 (k := 18) rfl) rfl ?_
    refine u_gS (o := 35) (p := 306) (pc := 30) (dec_at lsk_251 (k := 19) rfl) f_12_115 sx_271 rfl rfl ?_
    refine u_c (x := 10) (pc := 33) (dec_at lsk_251 (k := 20) rfl) rfl (by decide) ?_
    refine u_ld (v := iV l1) (pc := 35) (dec_at lsk_251 (k := 21) rfl) rfl ?_
    refine u_imul (pc := 36) (dec_at lsk_251 (k := 22) rfl) ?_
    refine u_ld (v := iV l3) (pc := 37) (dec_at lsk_251 (k := 23) rfl) rfl ?_
    refine u_iadd (pc := 38) (dec_at lsk_251 (k := 24) rfl) ?_
    have g3 := h.1
    have h := h.2
    have g4 := h.1
    have h := h.2
    refine u_iald (pc := 39) (dec_at lsk_251 (k := 25) rfl) sx_306 g3 g4 ?_
    have g5 := h.1
    have h := h.2
    have g6 := h.1
    have h := h.2
    refine u_iald (pc := 40) (dec_at lsk_251 (k := 26) rfl) sx_309 g5 g6 ?_
    refine u_ld (v := .ref 271) (pc := 41) (dec_at lsk_251 (k := 27) rfl) rfl ?_
    refine u_gS (o := 38) (p := 309) (pc := 42) (dec_at lsk_251 (k := 28) rfl) f_12_124 sx_271 rfl rfl ?_
    refine u_ld (v := .ref 271) (pc := 45) (dec_at lsk_251 (k := 29) rfl) rfl ?_
    refine u_gS (o := 35) (p := 306) (pc := 46) (dec_at lsk_251 (k := 30) rfl) f_12_115 sx_271 rfl rfl ?_
    refine u_c (x := 10) (pc := 49) (dec_at lsk_251 (k := 31) rfl) rfl (by decide) ?_
    refine u_ld (v := iV l2) (pc := 51) (dec_at lsk_251 (k := 32) rfl) rfl ?_
    refine u_imul (pc := 52) (dec_at lsk_251 (k := 33) rfl) ?_
    refine u_ld (v := iV l3) (pc := 53) (dec_at lsk_251 (k := 34) rfl) rfl ?_
    refine u_iadd (pc := 54) (dec_at lsk_251 (k := 35) rfl) ?_
    have g7 := h.1
    have h := h.2
    have g8 := h.1
    have h := h.2
    refine u_iald (pc := 55) (dec_at lsk_251 (k := 36) rfl) sx_306 g7 g8 ?_
    have g9 := h.1
    have h := h.2
    have g10 := h.1
    have h := h.2
    refine u_iald (pc := 56) (dec_at lsk_251 (k := 37) rfl) sx_309 g9 g10 ?_
    have g11 := h.1
    have h := h.2
    have g12 := h.1
    have h := h.2
    refine u_icT (pc := 57) (tgt := 62) (dec_at lsk_251 (k := 38) rfl) rfl (ci_eq g11 g12) (fun e13 => ?_) (fun e13 => ?_)
    · have h := ifT e13 h
      refine u_inc (lv' := [.ref 271, iV l1, iV l2, iV (l3 + 1)]) (pc := 62) (dec_at lsk_251 (k := 41) rfl) rfl (by decide) rfl ?_
      refine u_goto (pc := 65) (tgt := 19) (dec_at lsk_251 (k := 42) rfl) rfl ?_
      exact h
    · have h := ifF e13 h
      refine u_ld (v := iV 0) (pc := 60) (dec_at lsk_251 (k := 39) rfl) rfl ?_
      exact u_rZ (pc := 61) (dec_at lsk_251 (k := 40) rfl) rfl (by decide) h
  · have h := ifF e2 h
    refine u_ld (v := iV 1) (pc := 68) (dec_at lsk_251 (k := 43) rfl) rfl ?_
    exact u_rZ (pc := 69) (dec_at lsk_251 (k := 44) rfl) rfl (by decide) h
/-- method 252 -/
def K_252 (d pc : Nat) (lv : ev_L) (st : List Value) (u : uS) (Q : uS → Prop) : Prop := okU d 12 8 false none prog_14_method_50_code (qV Q) pc lv st u
theorem e_252 {d : Nat} {Q : uS → Prop} {u : uS} {l1 l2 : Int} (h : K_252 d 2 [.ref 271, iV l1, iV l2, iV 0, .retAddr 0, .retAddr 0, .retAddr 0, .retAddr 0] [] u Q) : cV (d + 1) 252 [.ref 271, iV l1, iV l2] u Q := by
  refine u_of me_252 (Nat.le_of_ble_eq_true rfl) ?_
  refine u_ld (v := iV 0) (pc := 0) (dec_at lsk_252 (k := 0) rfl) rfl ?_
  refine u_sto (lv' := [.ref 271, iV l1, iV l2, iV 0, .retAddr 0, .retAddr 0, .retAddr 0, .retAddr 0]) (pc := 1) (dec_at lsk_252 (k := 1) rfl) rfl ?_
  exact h
theorem k_252_2 {d : Nat} {Q : uS → Prop} {u : uS} {l1 l2 l3 : Int} (h : (rI l3) ∧ ((rI l2) ∧ (if l3 < l2 then ((0 ≤ l3) ∧ ((l3 < 42) ∧ (∀ u6 : uS, u6 = wr u 312 l3 (-2) → (K_252 d 2 [.ref 271, iV l1, iV l2, iV (l3 + 1), .retAddr 0, .retAddr 0, .retAddr 0, .retAddr 0] [] u6 Q)))) else ((0 ≤ u.1 309 0) ∧ ((u.1 309 0 < 42) ∧ (∀ u10 : uS, u10 = wr u 312 (u.1 309 0) 0 → (∀ u12 : uS, u12 = wr u10 313 0 (u10.1 309 0) → (K_252 d 50 [.ref 271, iV l1, .retAddr 0, iV 1, iV 0, .retAddr 0, .retAddr 0, .retAddr 0] [] u12 Q)))))))) : K_252 d 2 [.ref 271, iV l1, iV l2, iV l3, .retAddr 0, .retAddr 0, .retAddr 0, .retAddr 0] [] u Q := by
  unfold K_252
  refine u_ld (v := iV l3) (pc := 2) (dec_at lsk_252 (k := 2) rfl) rfl ?_
  refine u_ld (v := iV l2) (pc := 3) (dec_at lsk_252 (k := 3) rfl) rfl ?_
  have g1 := h.1
  have h := h.2
  have g2 := h.1
  have h := h.2
  refine u_icF (pc := 4) (tgt := 21) (dec_at lsk_252 (k := 4) rfl) rfl (ci_ge g1 g2) (fun e3 => ?_) (fun e3 => ?_)
  · have h := ifT e3 h
    refine u_ld (v := .ref 271) (pc := 7) (dec_at lsk_252 (k := 5) rfl) rfl ?_
    refine u_gS (o := 41) (p := 312) (pc := 8) (dec_at lsk_252 (k := 6) rfl) f_12_133 sx_271 rfl rfl ?_
    refine u_ld (v := iV l3) (pc := 11) (dec_at lsk_252 (k := 7) rfl) rfl ?_
    refine u_c (x := (-2)) (pc := 12) (dec_at lsk_252 (k := 8) rfl) rfl (by decide) ?_
    have g4 := h.1
    have h := h.2
    have g5 := h.1
    have h := h.2
    refine u_iast (pc := 14) (dec_at lsk_252 (k := 9) rfl) sx_312 g4 g5 (fun u6 e7 => ?_)
    have h := h u6 e7
    refine u_inc (lv' := [.ref 271, iV l1, iV l2, iV (l3 + 1), .retAddr 0, .retAddr 0, .retAddr 0, .retAddr 0]) (pc := 15) (dec_at lsk_252 (k := 10) rfl) rfl (by decide) rfl ?_
    refine u_goto (pc := 18) (tgt := 2) (dec_at lsk_252 (k := 11) rfl) rfl ?_
    exact h
  · have h := ifF e3 h
    refine u_ld (v := .ref 271) (pc := 21) (dec_at lsk_252 (k := 12) rfl) rfl ?_
    refine u_gS (o := 41) (p := 312) (pc := 22) (dec_at lsk_252 (k := 13) rfl) f_12_133 sx_271 rfl rfl ?_
    refine u_ld (v := .ref 271) (pc := 25) (dec_at lsk_252 (k := 14) rfl) rfl ?_
    refine u_gS (o := 38) (p := 309) (pc := 26) (dec_at lsk_252 (k := 15) rfl) f_12_124 sx_271 rfl rfl ?_
    refine u_ld (v := iV 0) (pc := 29) (dec_at lsk_252 (k := 16) rfl) rfl ?_
    refine u_iald (pc := 30) (dec_at lsk_252 (k := 17) rfl) sx_309 (by decide) (by decide) ?_
    refine u_ld (v := iV 0) (pc := 31) (dec_at lsk_252 (k := 18) rfl) rfl ?_
    have g8 := h.1
    have h := h.2
    have g9 := h.1
    have h := h.2
    refine u_iast (pc := 32) (dec_at lsk_252 (k := 19) rfl) sx_312 g8 g9 (fun u10 e11 => ?_)
    have h := h u10 e11
    refine u_ld (v := .ref 271) (pc := 33) (dec_at lsk_252 (k := 20) rfl) rfl ?_
    refine u_gS (o := 42) (p := 313) (pc := 34) (dec_at lsk_252 (k := 21) rfl) f_12_136 sx_271 rfl rfl ?_
    refine u_ld (v := iV 0) (pc := 37) (dec_at lsk_252 (k := 22) rfl) rfl ?_
    refine u_ld (v := .ref 271) (pc := 38) (dec_at lsk_252 (k := 23) rfl) rfl ?_
    refine u_gS (o := 38) (p := 309) (pc := 39) (dec_at lsk_252 (k := 24) rfl) f_12_124 sx_271 rfl rfl ?_
    refine u_ld (v := iV 0) (pc := 42) (dec_at lsk_252 (k := 25) rfl) rfl ?_
    refine u_iald (pc := 43) (dec_at lsk_252 (k := 26) rfl) sx_309 (by decide) (by decide) ?_
    refine u_iast (pc := 44) (dec_at lsk_252 (k := 27) rfl) sx_313 (by decide) (by decide) (fun u12 e13 => ?_)
    have h := h u12 e13
    refine u_ld (v := iV 1) (pc := 45) (dec_at lsk_252 (k := 28) rfl) rfl ?_
    refine u_sto (lv' := [.ref 271, iV l1, iV l2, iV 1, .retAddr 0, .retAddr 0, .retAddr 0, .retAddr 0]) (pc := 46) (dec_at lsk_252 (k := 29) rfl) rfl ?_
    refine u_ld (v := iV 0) (pc := 47) (dec_at lsk_252 (k := 30) rfl) rfl ?_
    refine u_sto (lv' := [.ref 271, iV l1, iV l2, iV 1, iV 0, .retAddr 0, .retAddr 0, .retAddr 0]) (pc := 48) (dec_at lsk_252 (k := 31) rfl) rfl ?_
    exact u_weak (sbK (sbK (sbD (sbK (sbK (sbK (sbK (sbK sb0)))))))) h
theorem k_252_50 {d : Nat} {Q : uS → Prop} {u : uS} {l1 l3 l4 : Int} (h : (rI l4) ∧ ((rI l3) ∧ (if l4 < l3 then ((0 ≤ l4) ∧ ((l4 < 42) ∧ ((0 ≤ u.1 313 l4) ∧ ((u.1 313 l4 < 42) ∧ ((0 ≤ u.1 311 (u.1 313 l4)) ∧ ((u.1 311 (u.1 313 l4) < 2001) ∧ ((0 ≤ (40 * l1) + l4) ∧ (((40 * l1) + l4 < 4000) ∧ ((u.1 307 (u.1 311 (u.1 313 l4)) = 0 ∨ u.1 307 (u.1 311 (u.1 313 l4)) = 1) ∧ (∀ u13 : uS, u13 = wr u 303 ((40 * l1) + l4) (u.1 307 (u.1 311 (u.1 313 l4))) → (K_252 d 92 [.ref 271, iV l1, .retAddr 0, iV l3, iV l4, iV (u.1 311 (u.1 313 l4)), iV 0, .retAddr 0] [] u13 Q))))))))))) else ((0 ≤ l1) ∧ ((l1 < 100) ∧ (∀ u17 : uS, u17 = wr u 301 l1 l3 → (Q u17))))))) : K_252 d 50 [.ref 271, iV l1, .retAddr 0, iV l3, iV l4, .retAddr 0, .retAddr 0, .retAddr 0] [] u Q := by
  unfold K_252
  refine u_ld (v := iV l4) (pc := 50) (dec_at lsk_252 (k := 32) rfl) rfl ?_
  refine u_ld (v := iV l3) (pc := 52) (dec_at lsk_252 (k := 33) rfl) rfl ?_
  have g1 := h.1
  have h := h.2
  have g2 := h.1
  have h := h.2
  refine u_icF (pc := 53) (tgt := 188) (dec_at lsk_252 (k := 34) rfl) rfl (ci_ge g1 g2) (fun e3 => ?_) (fun e3 => ?_)
  · have h := ifT e3 h
    refine u_ld (v := .ref 271) (pc := 56) (dec_at lsk_252 (k := 35) rfl) rfl ?_
    refine u_gS (o := 40) (p := 311) (pc := 57) (dec_at lsk_252 (k := 36) rfl) f_12_130 sx_271 rfl rfl ?_
    refine u_ld (v := .ref 271) (pc := 60) (dec_at lsk_252 (k := 37) rfl) rfl ?_
    refine u_gS (o := 42) (p := 313) (pc := 61) (dec_at lsk_252 (k := 38) rfl) f_12_136 sx_271 rfl rfl ?_
    refine u_ld (v := iV l4) (pc := 64) (dec_at lsk_252 (k := 39) rfl) rfl ?_
    have g4 := h.1
    have h := h.2
    have g5 := h.1
    have h := h.2
    refine u_iald (pc := 66) (dec_at lsk_252 (k := 40) rfl) sx_313 g4 g5 ?_
    have g6 := h.1
    have h := h.2
    have g7 := h.1
    have h := h.2
    refine u_iald (pc := 67) (dec_at lsk_252 (k := 41) rfl) sx_311 g6 g7 ?_
    refine u_sto (lv' := [.ref 271, iV l1, .retAddr 0, iV l3, iV l4, iV (u.1 311 (u.1 313 l4)), .retAddr 0, .retAddr 0]) (pc := 68) (dec_at lsk_252 (k := 42) rfl) rfl ?_
    refine u_ld (v := .ref 271) (pc := 70) (dec_at lsk_252 (k := 43) rfl) rfl ?_
    refine u_gS (o := 32) (p := 303) (pc := 71) (dec_at lsk_252 (k := 44) rfl) f_12_106 sx_271 rfl rfl ?_
    refine u_c (x := 40) (pc := 74) (dec_at lsk_252 (k := 45) rfl) rfl (by decide) ?_
    refine u_ld (v := iV l1) (pc := 76) (dec_at lsk_252 (k := 46) rfl) rfl ?_
    refine u_imul (pc := 77) (dec_at lsk_252 (k := 47) rfl) ?_
    refine u_ld (v := iV l4) (pc := 78) (dec_at lsk_252 (k := 48) rfl) rfl ?_
    refine u_iadd (pc := 80) (dec_at lsk_252 (k := 49) rfl) ?_
    refine u_ld (v := .ref 271) (pc := 81) (dec_at lsk_252 (k := 50) rfl) rfl ?_
    refine u_gS (o := 36) (p := 307) (pc := 82) (dec_at lsk_252 (k := 51) rfl) f_12_118 sx_271 rfl rfl ?_
    refine u_ld (v := iV (u.1 311 (u.1 313 l4))) (pc := 85) (dec_at lsk_252 (k := 52) rfl) rfl ?_
    have g8 := h.1
    have h := h.2
    have g9 := h.1
    have h := h.2
    refine u_zald (pc := 87) (dec_at lsk_252 (k := 53) rfl) sx_307 g8 g9 ?_
    have g10 := h.1
    have h := h.2
    have g11 := h.1
    have h := h.2
    have g12 := h.1
    have h := h.2
    refine u_zast (pc := 88) (dec_at lsk_252 (k := 54) rfl) sx_303 g10 g11 g12 (fun u13 e14 => ?_)
    have h := h u13 e14
    refine u_ld (v := iV 0) (pc := 89) (dec_at lsk_252 (k := 55) rfl) rfl ?_
    refine u_sto (lv' := [.ref 271, iV l1, .retAddr 0, iV l3, iV l4, iV (u.1 311 (u.1 313 l4)), iV 0, .retAddr 0]) (pc := 90) (dec_at lsk_252 (k := 56) rfl) rfl ?_
    exact h
  · have h := ifF e3 h
    refine u_ld (v := .ref 271) (pc := 188) (dec_at lsk_252 (k := 109) rfl) rfl ?_
    refine u_gS (o := 30) (p := 301) (pc := 189) (dec_at lsk_252 (k := 110) rfl) f_12_99 sx_271 rfl rfl ?_
    refine u_ld (v := iV l1) (pc := 192) (dec_at lsk_252 (k := 111) rfl) rfl ?_
    refine u_ld (v := iV l3) (pc := 193) (dec_at lsk_252 (k := 112) rfl) rfl ?_
    have g15 := h.1
    have h := h.2
    have g16 := h.1
    have h := h.2
    refine u_iast (pc := 194) (dec_at lsk_252 (k := 113) rfl) sx_301 g15 g16 (fun u17 e18 => ?_)
    have h := h u17 e18
    exact u_rV (pc := 195) (dec_at lsk_252 (k := 114) rfl) rfl h
theorem k_252_92 {d : Nat} {Q : uS → Prop} {u : uS} {l1 l3 l4 l5 l6 : Int} (h : (rI l6) ∧ (if l6 < 10 then ((0 ≤ (10 * l5) + l6) ∧ (((10 * l5) + l6 < 20010) ∧ ((0 ≤ u.1 306 ((10 * l5) + l6)) ∧ ((u.1 306 ((10 * l5) + l6) < 2001) ∧ ((0 ≤ u.1 309 (u.1 306 ((10 * l5) + l6))) ∧ ((u.1 309 (u.1 306 ((10 * l5) + l6)) < 42) ∧ ((rI (u.1 312 (u.1 309 (u.1 306 ((10 * l5) + l6))))) ∧ (if u.1 312 (u.1 309 (u.1 306 ((10 * l5) + l6))) = (-2) then (∀ u11 : uS, u11 = wr u 312 (u.1 309 (u.1 306 ((10 * l5) + l6))) l3 → ((0 ≤ l3) ∧ ((l3 < 42) ∧ (∀ u15 : uS, u15 = wr u11 313 l3 (u.1 309 (u.1 306 ((10 * l5) + l6))) → ((0 ≤ ((400 * l1) + (10 * l4)) + l6) ∧ ((((400 * l1) + (10 * l4)) + l6 < 40000) ∧ (∀ u19 : uS, u19 = wr u15 302 (((400 * l1) + (10 * l4)) + l6) (u15.1 312 (u.1 309 (u.1 306 ((10 * l5) + l6)))) → (K_252 d 92 [.ref 271, iV l1, .retAddr 0, iV (l3 + 1), iV l4, iV l5, iV (l6 + 1), .retAddr 0] [] u19 Q)))))))) else ((0 ≤ ((400 * l1) + (10 * l4)) + l6) ∧ ((((400 * l1) + (10 * l4)) + l6 < 40000) ∧ (∀ u23 : uS, u23 = wr u 302 (((400 * l1) + (10 * l4)) + l6) (u.1 312 (u.1 309 (u.1 306 ((10 * l5) + l6)))) → (K_252 d 92 [.ref 271, iV l1, .retAddr 0, iV l3, iV l4, iV l5, iV (l6 + 1), .retAddr 0] [] u23 Q)))))))))))) else (K_252 d 50 [.ref 271, iV l1, .retAddr 0, iV l3, iV (l4 + 1), .retAddr 0, .retAddr 0, .retAddr 0] [] u Q))) : K_252 d 92 [.ref 271, iV l1, .retAddr 0, iV l3, iV l4, iV l5, iV l6, .retAddr 0] [] u Q := by
  unfold K_252
  refine u_ld (v := iV l6) (pc := 92) (dec_at lsk_252 (k := 57) rfl) rfl ?_
  refine u_c (x := 10) (pc := 94) (dec_at lsk_252 (k := 58) rfl) rfl (by decide) ?_
  have g1 := h.1
  have h := h.2
  refine u_icF (pc := 96) (tgt := 182) (dec_at lsk_252 (k := 59) rfl) rfl (ci_ge g1 (by decide)) (fun e2 => ?_) (fun e2 => ?_)
  · have h := ifT e2 h
    refine u_ld (v := .ref 271) (pc := 99) (dec_at lsk_252 (k := 60) rfl) rfl ?_
    refine u_gS (o := 38) (p := 309) (pc := 100) (dec_at lsk_252 (k := 61) rfl) f_12_124 sx_271 rfl rfl ?_
    refine u_ld (v := .ref 271) (pc := 103) (dec_at lsk_252 (k := 62) rfl) rfl ?_
    refine u_gS (o := 35) (p := 306) (pc := 104) (dec_at lsk_252 (k := 63) rfl) f_12_115 sx_271 rfl rfl ?_
    refine u_c (x := 10) (pc := 107) (dec_at lsk_252 (k := 64) rfl) rfl (by decide) ?_
    refine u_ld (v := iV l5) (pc := 109) (dec_at lsk_252 (k := 65) rfl) rfl ?_
    refine u_imul (pc := 111) (dec_at lsk_252 (k := 66) rfl) ?_
    refine u_ld (v := iV l6) (pc := 112) (dec_at lsk_252 (k := 67) rfl) rfl ?_
    refine u_iadd (pc := 114) (dec_at lsk_252 (k := 68) rfl) ?_
    have g3 := h.1
    have h := h.2
    have g4 := h.1
    have h := h.2
    refine u_iald (pc := 115) (dec_at lsk_252 (k := 69) rfl) sx_306 g3 g4 ?_
    have g5 := h.1
    have h := h.2
    have g6 := h.1
    have h := h.2
    refine u_iald (pc := 116) (dec_at lsk_252 (k := 70) rfl) sx_309 g5 g6 ?_
    refine u_sto (lv' := [.ref 271, iV l1, .retAddr 0, iV l3, iV l4, iV l5, iV l6, iV (u.1 309 (u.1 306 ((10 * l5) + l6)))]) (pc := 117) (dec_at lsk_252 (k := 71) rfl) rfl ?_
    refine u_ld (v := .ref 271) (pc := 119) (dec_at lsk_252 (k := 72) rfl) rfl ?_
    refine u_gS (o := 41) (p := 312) (pc := 120) (dec_at lsk_252 (k := 73) rfl) f_12_133 sx_271 rfl rfl ?_
    refine u_ld (v := iV (u.1 309 (u.1 306 ((10 * l5) + l6)))) (pc := 123) (dec_at lsk_252 (k := 74) rfl) rfl ?_
    have g7 := h.1
    have h := h.2
    have g8 := h.1
    have h := h.2
    refine u_iald (pc := 125) (dec_at lsk_252 (k := 75) rfl) sx_312 g7 g8 ?_
    refine u_c (x := (-2)) (pc := 126) (dec_at lsk_252 (k := 76) rfl) rfl (by decide) ?_
    have g9 := h.1
    have h := h.2
    refine u_icF (pc := 128) (tgt := 150) (dec_at lsk_252 (k := 77) rfl) rfl (ci_ne g9 (by decide)) (fun e10 => ?_) (fun e10 => ?_)
    · have h := ifT e10 h
      refine u_ld (v := .ref 271) (pc := 131) (dec_at lsk_252 (k := 78) rfl) rfl ?_
      refine u_gS (o := 41) (p := 312) (pc := 132) (dec_at lsk_252 (k := 79) rfl) f_12_133 sx_271 rfl rfl ?_
      refine u_ld (v := iV (u.1 309 (u.1 306 ((10 * l5) + l6)))) (pc := 135) (dec_at lsk_252 (k := 80) rfl) rfl ?_
      refine u_ld (v := iV l3) (pc := 137) (dec_at lsk_252 (k := 81) rfl) rfl ?_
      refine u_iast (pc := 138) (dec_at lsk_252 (k := 82) rfl) sx_312 g7 g8 (fun u11 e12 => ?_)
      have h := h u11 e12
      refine u_ld (v := .ref 271) (pc := 139) (dec_at lsk_252 (k := 83) rfl) rfl ?_
      refine u_gS (o := 42) (p := 313) (pc := 140) (dec_at lsk_252 (k := 84) rfl) f_12_136 sx_271 rfl rfl ?_
      refine u_ld (v := iV l3) (pc := 143) (dec_at lsk_252 (k := 85) rfl) rfl ?_
      refine u_ld (v := iV (u.1 309 (u.1 306 ((10 * l5) + l6)))) (pc := 144) (dec_at lsk_252 (k := 86) rfl) rfl ?_
      have g13 := h.1
      have h := h.2
      have g14 := h.1
      have h := h.2
      refine u_iast (pc := 146) (dec_at lsk_252 (k := 87) rfl) sx_313 g13 g14 (fun u15 e16 => ?_)
      have h := h u15 e16
      refine u_inc (lv' := [.ref 271, iV l1, .retAddr 0, iV (l3 + 1), iV l4, iV l5, iV l6, iV (u.1 309 (u.1 306 ((10 * l5) + l6)))]) (pc := 147) (dec_at lsk_252 (k := 88) rfl) rfl (by decide) rfl ?_
      refine u_ld (v := .ref 271) (pc := 150) (dec_at lsk_252 (k := 89) rfl) rfl ?_
      refine u_gS (o := 31) (p := 302) (pc := 151) (dec_at lsk_252 (k := 90) rfl) f_12_103 sx_271 rfl rfl ?_
      refine u_c (x := 400) (pc := 154) (dec_at lsk_252 (k := 91) rfl) rfl (by decide) ?_
      refine u_ld (v := iV l1) (pc := 157) (dec_at lsk_252 (k := 92) rfl) rfl ?_
      refine u_imul (pc := 158) (dec_at lsk_252 (k := 93) rfl) ?_
      refine u_c (x := 10) (pc := 159) (dec_at lsk_252 (k := 94) rfl) rfl (by decide) ?_
      refine u_ld (v := iV l4) (pc := 161) (dec_at lsk_252 (k := 95) rfl) rfl ?_
      refine u_imul (pc := 163) (dec_at lsk_252 (k := 96) rfl) ?_
      refine u_iadd (pc := 164) (dec_at lsk_252 (k := 97) rfl) ?_
      refine u_ld (v := iV l6) (pc := 165) (dec_at lsk_252 (k := 98) rfl) rfl ?_
      refine u_iadd (pc := 167) (dec_at lsk_252 (k := 99) rfl) ?_
      refine u_ld (v := .ref 271) (pc := 168) (dec_at lsk_252 (k := 100) rfl) rfl ?_
      refine u_gS (o := 41) (p := 312) (pc := 169) (dec_at lsk_252 (k := 101) rfl) f_12_133 sx_271 rfl rfl ?_
      refine u_ld (v := iV (u.1 309 (u.1 306 ((10 * l5) + l6)))) (pc := 172) (dec_at lsk_252 (k := 102) rfl) rfl ?_
      refine u_iald (pc := 174) (dec_at lsk_252 (k := 103) rfl) sx_312 g7 g8 ?_
      have g17 := h.1
      have h := h.2
      have g18 := h.1
      have h := h.2
      refine u_iast (pc := 175) (dec_at lsk_252 (k := 104) rfl) sx_302 g17 g18 (fun u19 e20 => ?_)
      have h := h u19 e20
      refine u_inc (lv' := [.ref 271, iV l1, .retAddr 0, iV (l3 + 1), iV l4, iV l5, iV (l6 + 1), iV (u.1 309 (u.1 306 ((10 * l5) + l6)))]) (pc := 176) (dec_at lsk_252 (k := 105) rfl) rfl (by decide) rfl ?_
      refine u_goto (pc := 179) (tgt := 92) (dec_at lsk_252 (k := 106) rfl) rfl ?_
      exact u_weak (sbK (sbK (sbK (sbK (sbK (sbK (sbK (sbD sb0)))))))) h
    · have h := ifF e10 h
      refine u_ld (v := .ref 271) (pc := 150) (dec_at lsk_252 (k := 89) rfl) rfl ?_
      refine u_gS (o := 31) (p := 302) (pc := 151) (dec_at lsk_252 (k := 90) rfl) f_12_103 sx_271 rfl rfl ?_
      refine u_c (x := 400) (pc := 154) (dec_at lsk_252 (k := 91) rfl) rfl (by decide) ?_
      refine u_ld (v := iV l1) (pc := 157) (dec_at lsk_252 (k := 92) rfl) rfl ?_
      refine u_imul (pc := 158) (dec_at lsk_252 (k := 93) rfl) ?_
      refine u_c (x := 10) (pc := 159) (dec_at lsk_252 (k := 94) rfl) rfl (by decide) ?_
      refine u_ld (v := iV l4) (pc := 161) (dec_at lsk_252 (k := 95) rfl) rfl ?_
      refine u_imul (pc := 163) (dec_at lsk_252 (k := 96) rfl) ?_
      refine u_iadd (pc := 164) (dec_at lsk_252 (k := 97) rfl) ?_
      refine u_ld (v := iV l6) (pc := 165) (dec_at lsk_252 (k := 98) rfl) rfl ?_
      refine u_iadd (pc := 167) (dec_at lsk_252 (k := 99) rfl) ?_
      refine u_ld (v := .ref 271) (pc := 168) (dec_at lsk_252 (k := 100) rfl) rfl ?_
      refine u_gS (o := 41) (p := 312) (pc := 169) (dec_at lsk_252 (k := 101) rfl) f_12_133 sx_271 rfl rfl ?_
      refine u_ld (v := iV (u.1 309 (u.1 306 ((10 * l5) + l6)))) (pc := 172) (dec_at lsk_252 (k := 102) rfl) rfl ?_
      refine u_iald (pc := 174) (dec_at lsk_252 (k := 103) rfl) sx_312 g7 g8 ?_
      have g21 := h.1
      have h := h.2
      have g22 := h.1
      have h := h.2
      refine u_iast (pc := 175) (dec_at lsk_252 (k := 104) rfl) sx_302 g21 g22 (fun u23 e24 => ?_)
      have h := h u23 e24
      refine u_inc (lv' := [.ref 271, iV l1, .retAddr 0, iV l3, iV l4, iV l5, iV (l6 + 1), iV (u.1 309 (u.1 306 ((10 * l5) + l6)))]) (pc := 176) (dec_at lsk_252 (k := 105) rfl) rfl (by decide) rfl ?_
      refine u_goto (pc := 179) (tgt := 92) (dec_at lsk_252 (k := 106) rfl) rfl ?_
      exact u_weak (sbK (sbK (sbK (sbK (sbK (sbK (sbK (sbD sb0)))))))) h
  · have h := ifF e2 h
    refine u_inc (lv' := [.ref 271, iV l1, .retAddr 0, iV l3, iV (l4 + 1), iV l5, iV l6, .retAddr 0]) (pc := 182) (dec_at lsk_252 (k := 107) rfl) rfl (by decide) rfl ?_
    refine u_goto (pc := 185) (tgt := 50) (dec_at lsk_252 (k := 108) rfl) rfl ?_
    exact u_weak (sbK (sbK (sbK (sbK (sbK (sbD (sbD (sbK sb0)))))))) h
/-- method 253 -/
def K_253 (d pc : Nat) (lv : ev_L) (st : List Value) (u : uS) (Q : Int → uS → Prop) : Prop := okU d 12 6 false (some .int) prog_14_method_38_code (qI Q) pc lv st u
theorem e_253 {d : Nat} {Q : Int → uS → Prop} {u : uS} {l1 : Int} (h : ∀ u1 : uS, u1 = wr u 271 42 ((u.1 271 42) + 1) → ((rI l1) ∧ (if l1 = 11 then (cV (d + 1) 201 [.ref 271, iV ((u1.1 271 42) - 1)] u1 (fun u5 => Q ((u1.1 271 42) - 1) u5)) else (cV (d + 1) 245 [.ref 271] u1 (fun u6 => if l1 = (-1) then (∀ u8 : uS, u8 = wr u6 271 44 (1 + 1) → (K_253 (d + 1) 43 [.ref 271, iV l1, iV ((u1.1 271 42) - 1), iV 1, iV 0, .retAddr 0] [] u8 Q)) else (∀ u10 : uS, u10 = wr u6 271 44 (2 + 1) → (K_253 (d + 1) 43 [.ref 271, iV l1, iV ((u1.1 271 42) - 1), iV 2, iV 0, .retAddr 0] [] u10 Q))))))) : cI (d + 2) 253 [.ref 271, iV l1] u Q := by
  refine u_of me_253 (Nat.le_of_ble_eq_true rfl) ?_
  refine u_ld (v := .ref 271) (pc := 0) (dec_at lsk_253 (k := 0) rfl) rfl ?_
  refine u_cvI (As := []) (rb := 271) (st2 := []) (pc := 1) (dec_at lsk_253 (k := 1) rfl) m_12_378 (Or.inl rfl) rfl (Nat.le_of_ble_eq_true rfl) sx_271 me_243 rfl ?_ (fun _ _ h_ => h_)
  refine u_of me_243 (Nat.le_of_ble_eq_true rfl) ?_
  refine u_ld (v := .ref 271) (pc := 0) (dec_at lsk_243 (k := 0) rfl) rfl ?_
  refine u_ld (v := .ref 271) (pc := 1) (dec_at lsk_243 (k := 1) rfl) rfl ?_
  refine u_gI (z := 42) (pc := 2) (dec_at lsk_243 (k := 2) rfl) f_12_375 sx_271 rfl rfl ?_
  refine u_ld (v := iV 1) (pc := 5) (dec_at lsk_243 (k := 3) rfl) rfl ?_
  refine u_iadd (pc := 6) (dec_at lsk_243 (k := 4) rfl) ?_
  refine u_pI (z := 42) (pc := 7) (dec_at lsk_243 (k := 5) rfl) f_12_375 sx_271 rfl rfl rfl rfl (fun u1 e2 => ?_)
  have h := h u1 e2
  refine u_ld (v := .ref 271) (pc := 10) (dec_at lsk_243 (k := 6) rfl) rfl ?_
  refine u_gI (z := 42) (pc := 11) (dec_at lsk_243 (k := 7) rfl) f_12_375 sx_271 rfl rfl ?_
  refine u_ld (v := iV 1) (pc := 14) (dec_at lsk_243 (k := 8) rfl) rfl ?_
  refine u_isub (pc := 15) (dec_at lsk_243 (k := 9) rfl) ?_
  refine u_rI (pc := 16) (dec_at lsk_243 (k := 10) rfl) rfl ?_
  refine u_sto (lv' := [.ref 271, iV l1, iV ((u1.1 271 42) - 1), .retAddr 0, .retAddr 0, .retAddr 0]) (pc := 4) (dec_at lsk_253 (k := 2) rfl) rfl ?_
  refine u_ld (v := iV l1) (pc := 5) (dec_at lsk_253 (k := 3) rfl) rfl ?_
  refine u_c (x := 11) (pc := 6) (dec_at lsk_253 (k := 4) rfl) rfl (by decide) ?_
  have g3 := h.1
  have h := h.2
  refine u_icF (pc := 8) (tgt := 18) (dec_at lsk_253 (k := 5) rfl) rfl (ci_ne g3 (by decide)) (fun e4 => ?_) (fun e4 => ?_)
  · have h := ifT e4 h
    refine u_ld (v := .ref 271) (pc := 11) (dec_at lsk_253 (k := 6) rfl) rfl ?_
    refine u_ld (v := iV ((u1.1 271 42) - 1)) (pc := 12) (dec_at lsk_253 (k := 7) rfl) rfl ?_
    refine u_cvV (As := [iV ((u1.1 271 42) - 1)]) (rb := 271) (st2 := []) (pc := 13) (dec_at lsk_253 (k := 8) rfl) m_12_238 (Or.inl rfl) rfl (Nat.le_of_ble_eq_true rfl) sx_271 me_201 rfl h (fun u5 h => ?_)
    refine u_ld (v := iV ((u1.1 271 42) - 1)) (pc := 16) (dec_at lsk_253 (k := 9) rfl) rfl ?_
    exact u_rI (pc := 17) (dec_at lsk_253 (k := 10) rfl) rfl h
  · have h := ifF e4 h
    refine u_ld (v := .ref 271) (pc := 18) (dec_at lsk_253 (k := 11) rfl) rfl ?_
    refine u_cvV (As := []) (rb := 271) (st2 := []) (pc := 19) (dec_at lsk_253 (k := 12) rfl) m_12_381 (Or.inl rfl) rfl (Nat.le_of_ble_eq_true rfl) sx_271 me_245 rfl h (fun u6 h => ?_)
    refine u_ld (v := iV l1) (pc := 22) (dec_at lsk_253 (k := 13) rfl) rfl ?_
    refine u_ld (v := iV (-1)) (pc := 23) (dec_at lsk_253 (k := 14) rfl) rfl ?_
    refine u_icF (pc := 24) (tgt := 31) (dec_at lsk_253 (k := 15) rfl) rfl (ci_ne g3 (by decide)) (fun e7 => ?_) (fun e7 => ?_)
    · have h := ifT e7 h
      refine u_ld (v := iV 1) (pc := 27) (dec_at lsk_253 (k := 16) rfl) rfl ?_
      refine u_goto (pc := 28) (tgt := 32) (dec_at lsk_253 (k := 17) rfl) rfl ?_
      refine u_sto (lv' := [.ref 271, iV l1, iV ((u1.1 271 42) - 1), iV 1, .retAddr 0, .retAddr 0]) (pc := 32) (dec_at lsk_253 (k := 19) rfl) rfl ?_
      refine u_ld (v := .ref 271) (pc := 33) (dec_at lsk_253 (k := 20) rfl) rfl ?_
      refine u_ld (v := iV 1) (pc := 34) (dec_at lsk_253 (k := 21) rfl) rfl ?_
      refine u_ld (v := iV 1) (pc := 35) (dec_at lsk_253 (k := 22) rfl) rfl ?_
      refine u_iadd (pc := 36) (dec_at lsk_253 (k := 23) rfl) ?_
      refine u_pI (z := 44) (pc := 37) (dec_at lsk_253 (k := 24) rfl) f_12_384 sx_271 rfl rfl rfl rfl (fun u8 e9 => ?_)
      have h := h u8 e9
      refine u_ld (v := iV 0) (pc := 40) (dec_at lsk_253 (k := 25) rfl) rfl ?_
      refine u_sto (lv' := [.ref 271, iV l1, iV ((u1.1 271 42) - 1), iV 1, iV 0, .retAddr 0]) (pc := 41) (dec_at lsk_253 (k := 26) rfl) rfl ?_
      exact h
    · have h := ifF e7 h
      refine u_ld (v := iV 2) (pc := 31) (dec_at lsk_253 (k := 18) rfl) rfl ?_
      refine u_sto (lv' := [.ref 271, iV l1, iV ((u1.1 271 42) - 1), iV 2, .retAddr 0, .retAddr 0]) (pc := 32) (dec_at lsk_253 (k := 19) rfl) rfl ?_
      refine u_ld (v := .ref 271) (pc := 33) (dec_at lsk_253 (k := 20) rfl) rfl ?_
      refine u_ld (v := iV 2) (pc := 34) (dec_at lsk_253 (k := 21) rfl) rfl ?_
      refine u_ld (v := iV 1) (pc := 35) (dec_at lsk_253 (k := 22) rfl) rfl ?_
      refine u_iadd (pc := 36) (dec_at lsk_253 (k := 23) rfl) ?_
      refine u_pI (z := 44) (pc := 37) (dec_at lsk_253 (k := 24) rfl) f_12_384 sx_271 rfl rfl rfl rfl (fun u10 e11 => ?_)
      have h := h u10 e11
      refine u_ld (v := iV 0) (pc := 40) (dec_at lsk_253 (k := 25) rfl) rfl ?_
      refine u_sto (lv' := [.ref 271, iV l1, iV ((u1.1 271 42) - 1), iV 2, iV 0, .retAddr 0]) (pc := 41) (dec_at lsk_253 (k := 26) rfl) rfl ?_
      exact h
theorem k_253_43 {d : Nat} {Q : Int → uS → Prop} {u : uS} {l1 l2 l3 l4 : Int} (h : (rI l4) ∧ ((rI (u.1 271 44)) ∧ (if l4 < u.1 271 44 then ((rI l1) ∧ (if l1 = (-1) then (if l4 = 0 then ((0 ≤ l4) ∧ ((l4 < 2001) ∧ (∀ u9 : uS, u9 = wr u 307 l4 1 → (K_253 (d + 1) 91 [.ref 271, iV l1, iV l2, iV l3, iV l4, iV 0] [] u9 Q)))) else ((0 ≤ l4) ∧ ((l4 < 2001) ∧ (∀ u13 : uS, u13 = wr u 307 l4 0 → (K_253 (d + 1) 91 [.ref 271, iV l1, iV l2, iV l3, iV l4, iV 0] [] u13 Q))))) else (if l4 = 1 then ((0 ≤ l4) ∧ ((l4 < 2001) ∧ (∀ u18 : uS, u18 = wr u 307 l4 1 → (K_253 (d + 1) 91 [.ref 271, iV l1, iV l2, iV l3, iV l4, iV 0] [] u18 Q)))) else ((0 ≤ l4) ∧ ((l4 < 2001) ∧ (∀ u22 : uS, u22 = wr u 307 l4 0 → (K_253 (d + 1) 91 [.ref 271, iV l1, iV l2, iV l3, iV l4, iV 0] [] u22 Q))))))) else (cV (d + 1) 249 [.ref 271, iV l2] u (fun u24 => Q l2 u24))))) : K_253 (d + 1) 43 [.ref 271, iV l1, iV l2, iV l3, iV l4, .retAddr 0] [] u Q := by
  unfold K_253
  refine u_ld (v := iV l4) (pc := 43) (dec_at lsk_253 (k := 27) rfl) rfl ?_
  refine u_ld (v := .ref 271) (pc := 45) (dec_at lsk_253 (k := 28) rfl) rfl ?_
  refine u_gI (z := 44) (pc := 46) (dec_at lsk_253 (k := 29) rfl) f_12_384 sx_271 rfl rfl ?_
  have g1 := h.1
  have h := h.2
  have g2 := h.1
  have h := h.2
  refine u_icF (pc := 49) (tgt := 145) (dec_at lsk_253 (k := 30) rfl) rfl (ci_ge g1 g2) (fun e3 => ?_) (fun e3 => ?_)
  · have h := ifT e3 h
    refine u_ld (v := .ref 271) (pc := 52) (dec_at lsk_253 (k := 31) rfl) rfl ?_
    refine u_gS (o := 36) (p := 307) (pc := 53) (dec_at lsk_253 (k := 32) rfl) f_12_118 sx_271 rfl rfl ?_
    refine u_ld (v := iV l4) (pc := 56) (dec_at lsk_253 (k := 33) rfl) rfl ?_
    refine u_ld (v := iV l1) (pc := 58) (dec_at lsk_253 (k := 34) rfl) rfl ?_
    refine u_ld (v := iV (-1)) (pc := 59) (dec_at lsk_253 (k := 35) rfl) rfl ?_
    have g4 := h.1
    have h := h.2
    refine u_icF (pc := 60) (tgt := 76) (dec_at lsk_253 (k := 36) rfl) rfl (ci_ne g4 (by decide)) (fun e5 => ?_) (fun e5 => ?_)
    · have h := ifT e5 h
      refine u_ld (v := iV l4) (pc := 63) (dec_at lsk_253 (k := 37) rfl) rfl ?_
      refine u_ifF (pc := 65) (tgt := 72) (dec_at lsk_253 (k := 38) rfl) rfl (c0_ne g1) (fun e6 => ?_) (fun e6 => ?_)
      · have h := ifT e6 h
        refine u_ld (v := iV 1) (pc := 68) (dec_at lsk_253 (k := 39) rfl) rfl ?_
        refine u_goto (pc := 69) (tgt := 87) (dec_at lsk_253 (k := 40) rfl) rfl ?_
        have g7 := h.1
        have h := h.2
        have g8 := h.1
        have h := h.2
        refine u_zast (pc := 87) (dec_at lsk_253 (k := 49) rfl) sx_307 g7 g8 (by decide) (fun u9 e10 => ?_)
        have h := h u9 e10
        refine u_ld (v := iV 0) (pc := 88) (dec_at lsk_253 (k := 50) rfl) rfl ?_
        refine u_sto (lv' := [.ref 271, iV l1, iV l2, iV l3, iV l4, iV 0]) (pc := 89) (dec_at lsk_253 (k := 51) rfl) rfl ?_
        exact h
      · have h := ifF e6 h
        refine u_ld (v := iV 0) (pc := 72) (dec_at lsk_253 (k := 41) rfl) rfl ?_
        refine u_goto (pc := 73) (tgt := 87) (dec_at lsk_253 (k := 42) rfl) rfl ?_
        have g11 := h.1
        have h := h.2
        have g12 := h.1
        have h := h.2
        refine u_zast (pc := 87) (dec_at lsk_253 (k := 49) rfl) sx_307 g11 g12 (by decide) (fun u13 e14 => ?_)
        have h := h u13 e14
        refine u_ld (v := iV 0) (pc := 88) (dec_at lsk_253 (k := 50) rfl) rfl ?_
        refine u_sto (lv' := [.ref 271, iV l1, iV l2, iV l3, iV l4, iV 0]) (pc := 89) (dec_at lsk_253 (k := 51) rfl) rfl ?_
        exact h
    · have h := ifF e5 h
      refine u_ld (v := iV l4) (pc := 76) (dec_at lsk_253 (k := 43) rfl) rfl ?_
      refine u_ld (v := iV 1) (pc := 78) (dec_at lsk_253 (k := 44) rfl) rfl ?_
      refine u_icF (pc := 79) (tgt := 86) (dec_at lsk_253 (k := 45) rfl) rfl (ci_ne g1 (by decide)) (fun e15 => ?_) (fun e15 => ?_)
      · have h := ifT e15 h
        refine u_ld (v := iV 1) (pc := 82) (dec_at lsk_253 (k := 46) rfl) rfl ?_
        refine u_goto (pc := 83) (tgt := 87) (dec_at lsk_253 (k := 47) rfl) rfl ?_
        have g16 := h.1
        have h := h.2
        have g17 := h.1
        have h := h.2
        refine u_zast (pc := 87) (dec_at lsk_253 (k := 49) rfl) sx_307 g16 g17 (by decide) (fun u18 e19 => ?_)
        have h := h u18 e19
        refine u_ld (v := iV 0) (pc := 88) (dec_at lsk_253 (k := 50) rfl) rfl ?_
        refine u_sto (lv' := [.ref 271, iV l1, iV l2, iV l3, iV l4, iV 0]) (pc := 89) (dec_at lsk_253 (k := 51) rfl) rfl ?_
        exact h
      · have h := ifF e15 h
        refine u_ld (v := iV 0) (pc := 86) (dec_at lsk_253 (k := 48) rfl) rfl ?_
        have g20 := h.1
        have h := h.2
        have g21 := h.1
        have h := h.2
        refine u_zast (pc := 87) (dec_at lsk_253 (k := 49) rfl) sx_307 g20 g21 (by decide) (fun u22 e23 => ?_)
        have h := h u22 e23
        refine u_ld (v := iV 0) (pc := 88) (dec_at lsk_253 (k := 50) rfl) rfl ?_
        refine u_sto (lv' := [.ref 271, iV l1, iV l2, iV l3, iV l4, iV 0]) (pc := 89) (dec_at lsk_253 (k := 51) rfl) rfl ?_
        exact h
  · have h := ifF e3 h
    refine u_ld (v := .ref 271) (pc := 145) (dec_at lsk_253 (k := 78) rfl) rfl ?_
    refine u_ld (v := iV l2) (pc := 146) (dec_at lsk_253 (k := 79) rfl) rfl ?_
    refine u_cvV (As := [iV l2]) (rb := 271) (st2 := []) (pc := 147) (dec_at lsk_253 (k := 80) rfl) m_12_387 (Or.inl rfl) rfl (Nat.le_of_ble_eq_true rfl) sx_271 me_249 rfl h (fun u24 h => ?_)
    refine u_ld (v := iV l2) (pc := 150) (dec_at lsk_253 (k := 81) rfl) rfl ?_
    exact u_rI (pc := 151) (dec_at lsk_253 (k := 82) rfl) rfl h
theorem k_253_91 {d : Nat} {Q : Int → uS → Prop} {u : uS} {l1 l2 l3 l4 l5 : Int} (h : (rI l5) ∧ (if l5 < 10 then ((rI l4) ∧ (if l4 = 0 then ((rI l1) ∧ (if l1 = l5 then ((0 ≤ (10 * l4) + l5) ∧ (((10 * l4) + l5 < 20010) ∧ (∀ u9 : uS, u9 = wr u 306 ((10 * l4) + l5) 1 → (K_253 (d + 1) 91 [.ref 271, iV l1, iV l2, iV l3, iV l4, iV (l5 + 1)] [] u9 Q)))) else (if l1 = 10 then ((0 ≤ (10 * l4) + l5) ∧ (((10 * l4) + l5 < 20010) ∧ (∀ u14 : uS, u14 = wr u 306 ((10 * l4) + l5) 1 → (K_253 (d + 1) 91 [.ref 271, iV l1, iV l2, iV l3, iV l4, iV (l5 + 1)] [] u14 Q)))) else ((0 ≤ (10 * l4) + l5) ∧ (((10 * l4) + l5 < 20010) ∧ (∀ u18 : uS, u18 = wr u 306 ((10 * l4) + l5) l3 → (K_253 (d + 1) 91 [.ref 271, iV l1, iV l2, iV l3, iV l4, iV (l5 + 1)] [] u18 Q))))))) else ((0 ≤ (10 * l4) + l5) ∧ (((10 * l4) + l5 < 20010) ∧ (∀ u22 : uS, u22 = wr u 306 ((10 * l4) + l5) l3 → (K_253 (d + 1) 91 [.ref 271, iV l1, iV l2, iV l3, iV l4, iV (l5 + 1)] [] u22 Q)))))) else (K_253 (d + 1) 43 [.ref 271, iV l1, iV l2, iV l3, iV (l4 + 1), .retAddr 0] [] u Q))) : K_253 (d + 1) 91 [.ref 271, iV l1, iV l2, iV l3, iV l4, iV l5] [] u Q := by
  unfold K_253
  refine u_ld (v := iV l5) (pc := 91) (dec_at lsk_253 (k := 52) rfl) rfl ?_
  refine u_c (x := 10) (pc := 93) (dec_at lsk_253 (k := 53) rfl) rfl (by decide) ?_
  have g1 := h.1
  have h := h.2
  refine u_icF (pc := 95) (tgt := 139) (dec_at lsk_253 (k := 54) rfl) rfl (ci_ge g1 (by decide)) (fun e2 => ?_) (fun e2 => ?_)
  · have h := ifT e2 h
    refine u_ld (v := .ref 271) (pc := 98) (dec_at lsk_253 (k := 55) rfl) rfl ?_
    refine u_gS (o := 35) (p := 306) (pc := 99) (dec_at lsk_253 (k := 56) rfl) f_12_115 sx_271 rfl rfl ?_
    refine u_c (x := 10) (pc := 102) (dec_at lsk_253 (k := 57) rfl) rfl (by decide) ?_
    refine u_ld (v := iV l4) (pc := 104) (dec_at lsk_253 (k := 58) rfl) rfl ?_
    refine u_imul (pc := 106) (dec_at lsk_253 (k := 59) rfl) ?_
    refine u_ld (v := iV l5) (pc := 107) (dec_at lsk_253 (k := 60) rfl) rfl ?_
    refine u_iadd (pc := 109) (dec_at lsk_253 (k := 61) rfl) ?_
    refine u_ld (v := iV l4) (pc := 110) (dec_at lsk_253 (k := 62) rfl) rfl ?_
    have g3 := h.1
    have h := h.2
    refine u_ifF (pc := 112) (tgt := 131) (dec_at lsk_253 (k := 63) rfl) rfl (c0_ne g3) (fun e4 => ?_) (fun e4 => ?_)
    · have h := ifT e4 h
      refine u_ld (v := iV l1) (pc := 115) (dec_at lsk_253 (k := 64) rfl) rfl ?_
      refine u_ld (v := iV l5) (pc := 116) (dec_at lsk_253 (k := 65) rfl) rfl ?_
      have g5 := h.1
      have h := h.2
      refine u_icT (pc := 118) (tgt := 127) (dec_at lsk_253 (k := 66) rfl) rfl (ci_eq g5 g1) (fun e6 => ?_) (fun e6 => ?_)
      · have h := ifT e6 h
        refine u_ld (v := iV 1) (pc := 127) (dec_at lsk_253 (k := 70) rfl) rfl ?_
        refine u_goto (pc := 128) (tgt := 132) (dec_at lsk_253 (k := 71) rfl) rfl ?_
        have g7 := h.1
        have h := h.2
        have g8 := h.1
        have h := h.2
        refine u_iast (pc := 132) (dec_at lsk_253 (k := 73) rfl) sx_306 g7 g8 (fun u9 e10 => ?_)
        have h := h u9 e10
        refine u_inc (lv' := [.ref 271, iV l1, iV l2, iV l3, iV l4, iV (l5 + 1)]) (pc := 133) (dec_at lsk_253 (k := 74) rfl) rfl (by decide) rfl ?_
        refine u_goto (pc := 136) (tgt := 91) (dec_at lsk_253 (k := 75) rfl) rfl ?_
        exact h
      · have h := ifF e6 h
        refine u_ld (v := iV l1) (pc := 121) (dec_at lsk_253 (k := 67) rfl) rfl ?_
        refine u_c (x := 10) (pc := 122) (dec_at lsk_253 (k := 68) rfl) rfl (by decide) ?_
        refine u_icF (pc := 124) (tgt := 131) (dec_at lsk_253 (k := 69) rfl) rfl (ci_ne g5 (by decide)) (fun e11 => ?_) (fun e11 => ?_)
        · have h := ifT e11 h
          refine u_ld (v := iV 1) (pc := 127) (dec_at lsk_253 (k := 70) rfl) rfl ?_
          refine u_goto (pc := 128) (tgt := 132) (dec_at lsk_253 (k := 71) rfl) rfl ?_
          have g12 := h.1
          have h := h.2
          have g13 := h.1
          have h := h.2
          refine u_iast (pc := 132) (dec_at lsk_253 (k := 73) rfl) sx_306 g12 g13 (fun u14 e15 => ?_)
          have h := h u14 e15
          refine u_inc (lv' := [.ref 271, iV l1, iV l2, iV l3, iV l4, iV (l5 + 1)]) (pc := 133) (dec_at lsk_253 (k := 74) rfl) rfl (by decide) rfl ?_
          refine u_goto (pc := 136) (tgt := 91) (dec_at lsk_253 (k := 75) rfl) rfl ?_
          exact h
        · have h := ifF e11 h
          refine u_ld (v := iV l3) (pc := 131) (dec_at lsk_253 (k := 72) rfl) rfl ?_
          have g16 := h.1
          have h := h.2
          have g17 := h.1
          have h := h.2
          refine u_iast (pc := 132) (dec_at lsk_253 (k := 73) rfl) sx_306 g16 g17 (fun u18 e19 => ?_)
          have h := h u18 e19
          refine u_inc (lv' := [.ref 271, iV l1, iV l2, iV l3, iV l4, iV (l5 + 1)]) (pc := 133) (dec_at lsk_253 (k := 74) rfl) rfl (by decide) rfl ?_
          refine u_goto (pc := 136) (tgt := 91) (dec_at lsk_253 (k := 75) rfl) rfl ?_
          exact h
    · have h := ifF e4 h
      refine u_ld (v := iV l3) (pc := 131) (dec_at lsk_253 (k := 72) rfl) rfl ?_
      have g20 := h.1
      have h := h.2
      have g21 := h.1
      have h := h.2
      refine u_iast (pc := 132) (dec_at lsk_253 (k := 73) rfl) sx_306 g20 g21 (fun u22 e23 => ?_)
      have h := h u22 e23
      refine u_inc (lv' := [.ref 271, iV l1, iV l2, iV l3, iV l4, iV (l5 + 1)]) (pc := 133) (dec_at lsk_253 (k := 74) rfl) rfl (by decide) rfl ?_
      refine u_goto (pc := 136) (tgt := 91) (dec_at lsk_253 (k := 75) rfl) rfl ?_
      exact h
  · have h := ifF e2 h
    refine u_inc (lv' := [.ref 271, iV l1, iV l2, iV l3, iV (l4 + 1), iV l5]) (pc := 139) (dec_at lsk_253 (k := 76) rfl) rfl (by decide) rfl ?_
    refine u_goto (pc := 142) (tgt := 43) (dec_at lsk_253 (k := 77) rfl) rfl ?_
    exact u_weak (sbK (sbK (sbK (sbK (sbK (sbD sb0)))))) h
