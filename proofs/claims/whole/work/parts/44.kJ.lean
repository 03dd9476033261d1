/-! Conditions (wip/tools/gen_k.py) -/
/-- method 255 -/
def K_255 (d pc : Nat) (lv : ev_L) (st : List Value) (u : uS) (Q : uS → Prop) : Prop := okU d 12 2 false none prog_14_method_57_code (qV Q) pc lv st u
theorem e_255 {d : Nat} {Q : uS → Prop} {u : uS} (h : cV d 256 [.ref 271] u (fun u1 => (rI (u1.1 271 43)) ∧ (if u1.1 271 43 = 0 then ((0 ≤ (u1.1 271 61) - 1) ∧ (((u1.1 271 61) - 1 < 17) ∧ ((rI (u1.1 314 ((u1.1 271 61) - 1))) ∧ (if u1.1 314 ((u1.1 271 61) - 1) = (-2) then (∀ u8 : uS, u8 = wr u1 314 ((u1.1 271 61) - 1) (u1.1 315 ((u1.1 271 61) - 1)) → (∀ u10 : uS, u10 = wr u8 315 ((u1.1 271 61) - 1) (-2) → (Q u10))) else (cI d 257 [.ref 271, iV (u1.1 314 ((u1.1 271 61) - 1)), iV (u1.1 315 ((u1.1 271 61) - 1)), iV 1] u1 (fun r13 u12 => ∀ u14 : uS, u14 = wr u12 314 ((u1.1 271 61) - 1) r13 → (∀ u16 : uS, u16 = wr u14 315 ((u1.1 271 61) - 1) (-2) → (Q u16)))))))) else (Q u1)))) : cV (d + 1) 255 [.ref 271] u Q := by
  refine u_of me_255 (Nat.le_of_ble_eq_true rfl) ?_
  refine u_ld (v := .ref 271) (pc := 0) (dec_at lsk_255 (k := 0) rfl) rfl ?_
  refine u_cvV (As := []) (rb := 271) (st2 := []) (pc := 1) (dec_at lsk_255 (k := 1) rfl) m_12_445 (Or.inl rfl) rfl (Nat.le_of_ble_eq_true rfl) sx_271 me_256 rfl h (fun u1 h => ?_)
  refine u_ld (v := .ref 271) (pc := 4) (dec_at lsk_255 (k := 2) rfl) rfl ?_
  refine u_gI (z := 61) (pc := 5) (dec_at lsk_255 (k := 3) rfl) f_12_425 sx_271 rfl rfl ?_
  refine u_ld (v := iV 1) (pc := 8) (dec_at lsk_255 (k := 4) rfl) rfl ?_
  refine u_isub (pc := 9) (dec_at lsk_255 (k := 5) rfl) ?_
  refine u_sto (lv' := [.ref 271, iV ((u1.1 271 61) - 1)]) (pc := 10) (dec_at lsk_255 (k := 6) rfl) rfl ?_
  refine u_ld (v := .ref 271) (pc := 11) (dec_at lsk_255 (k := 7) rfl) rfl ?_
  refine u_gZ (z := 43) (pc := 12) (dec_at lsk_255 (k := 8) rfl) f_12_394 sx_271 rfl rfl ?_
  have g2 := h.1
  have h := h.2
  refine u_ifT (pc := 15) (tgt := 19) (dec_at lsk_255 (k := 9) rfl) rfl (c0_eq g2) (fun e3 => ?_) (fun e3 => ?_)
  · have h := ifT e3 h
    refine u_ld (v := .ref 271) (pc := 19) (dec_at lsk_255 (k := 11) rfl) rfl ?_
    refine u_gS (o := 43) (p := 314) (pc := 20) (dec_at lsk_255 (k := 12) rfl) f_12_139 sx_271 rfl rfl ?_
    refine u_ld (v := iV ((u1.1 271 61) - 1)) (pc := 23) (dec_at lsk_255 (k := 13) rfl) rfl ?_
    refine u_ld (v := .ref 271) (pc := 24) (dec_at lsk_255 (k := 14) rfl) rfl ?_
    refine u_gS (o := 43) (p := 314) (pc := 25) (dec_at lsk_255 (k := 15) rfl) f_12_139 sx_271 rfl rfl ?_
    refine u_ld (v := iV ((u1.1 271 61) - 1)) (pc := 28) (dec_at lsk_255 (k := 16) rfl) rfl ?_
    have g4 := h.1
    have h := h.2
    have g5 := h.1
    have h := h.2
    refine u_iald (pc := 29) (dec_at lsk_255 (k := 17) rfl) sx_314 g4 g5 ?_
    refine u_c (x := (-2)) (pc := 30) (dec_at lsk_255 (k := 18) rfl) rfl (by decide) ?_
    have g6 := h.1
    have h := h.2
    refine u_icF (pc := 32) (tgt := 44) (dec_at lsk_255 (k := 19) rfl) rfl (ci_ne g6 (by decide)) (fun e7 => ?_) (fun e7 => ?_)
    · have h := ifT e7 h
      refine u_ld (v := .ref 271) (pc := 35) (dec_at lsk_255 (k := 20) rfl) rfl ?_
      refine u_gS (o := 44) (p := 315) (pc := 36) (dec_at lsk_255 (k := 21) rfl) f_12_142 sx_271 rfl rfl ?_
      refine u_ld (v := iV ((u1.1 271 61) - 1)) (pc := 39) (dec_at lsk_255 (k := 22) rfl) rfl ?_
      refine u_iald (pc := 40) (dec_at lsk_255 (k := 23) rfl) sx_315 g4 g5 ?_
      refine u_goto (pc := 41) (tgt := 61) (dec_at lsk_255 (k := 24) rfl) rfl ?_
      refine u_iast (pc := 61) (dec_at lsk_255 (k := 36) rfl) sx_314 g4 g5 (fun u8 e9 => ?_)
      have h := h u8 e9
      refine u_ld (v := .ref 271) (pc := 62) (dec_at lsk_255 (k := 37) rfl) rfl ?_
      refine u_gS (o := 44) (p := 315) (pc := 63) (dec_at lsk_255 (k := 38) rfl) f_12_142 sx_271 rfl rfl ?_
      refine u_ld (v := iV ((u1.1 271 61) - 1)) (pc := 66) (dec_at lsk_255 (k := 39) rfl) rfl ?_
      refine u_c (x := (-2)) (pc := 67) (dec_at lsk_255 (k := 40) rfl) rfl (by decide) ?_
      refine u_iast (pc := 69) (dec_at lsk_255 (k := 41) rfl) sx_315 g4 g5 (fun u10 e11 => ?_)
      have h := h u10 e11
      exact u_rV (pc := 70) (dec_at lsk_255 (k := 42) rfl) rfl h
    · have h := ifF e7 h
      refine u_ld (v := .ref 271) (pc := 44) (dec_at lsk_255 (k := 25) rfl) rfl ?_
      refine u_ld (v := .ref 271) (pc := 45) (dec_at lsk_255 (k := 26) rfl) rfl ?_
      refine u_gS (o := 43) (p := 314) (pc := 46) (dec_at lsk_255 (k := 27) rfl) f_12_139 sx_271 rfl rfl ?_
      refine u_ld (v := iV ((u1.1 271 61) - 1)) (pc := 49) (dec_at lsk_255 (k := 28) rfl) rfl ?_
      refine u_iald (pc := 50) (dec_at lsk_255 (k := 29) rfl) sx_314 g4 g5 ?_
      refine u_ld (v := .ref 271) (pc := 51) (dec_at lsk_255 (k := 30) rfl) rfl ?_
      refine u_gS (o := 44) (p := 315) (pc := 52) (dec_at lsk_255 (k := 31) rfl) f_12_142 sx_271 rfl rfl ?_
      refine u_ld (v := iV ((u1.1 271 61) - 1)) (pc := 55) (dec_at lsk_255 (k := 32) rfl) rfl ?_
      refine u_iald (pc := 56) (dec_at lsk_255 (k := 33) rfl) sx_315 g4 g5 ?_
      refine u_ld (v := iV 1) (pc := 57) (dec_at lsk_255 (k := 34) rfl) rfl ?_
      refine u_cvI (As := [iV (u1.1 314 ((u1.1 271 61) - 1)), iV (u1.1 315 ((u1.1 271 61) - 1)), iV 1]) (rb := 271) (st2 := [iV ((u1.1 271 61) - 1), .ref 314]) (pc := 58) (dec_at lsk_255 (k := 35) rfl) m_12_442 (Or.inl rfl) rfl (Nat.le_of_ble_eq_true rfl) sx_271 me_257 rfl h (fun r13 u12 h => ?_)
      refine u_iast (pc := 61) (dec_at lsk_255 (k := 36) rfl) sx_314 g4 g5 (fun u14 e15 => ?_)
      have h := h u14 e15
      refine u_ld (v := .ref 271) (pc := 62) (dec_at lsk_255 (k := 37) rfl) rfl ?_
      refine u_gS (o := 44) (p := 315) (pc := 63) (dec_at lsk_255 (k := 38) rfl) f_12_142 sx_271 rfl rfl ?_
      refine u_ld (v := iV ((u1.1 271 61) - 1)) (pc := 66) (dec_at lsk_255 (k := 39) rfl) rfl ?_
      refine u_c (x := (-2)) (pc := 67) (dec_at lsk_255 (k := 40) rfl) rfl (by decide) ?_
      refine u_iast (pc := 69) (dec_at lsk_255 (k := 41) rfl) sx_315 g4 g5 (fun u16 e17 => ?_)
      have h := h u16 e17
      exact u_rV (pc := 70) (dec_at lsk_255 (k := 42) rfl) rfl h
  · have h := ifF e3 h
    exact u_rV (pc := 18) (dec_at lsk_255 (k := 10) rfl) rfl h
/-- method 256 -/
def K_256 (d pc : Nat) (lv : ev_L) (st : List Value) (u : uS) (Q : uS → Prop) : Prop := okU d 12 3 false none prog_14_method_56_code (qV Q) pc lv st u
theorem e_256 {d : Nat} {Q : uS → Prop} {u : uS} (h : cV d 241 [.ref 271] u (fun u1 => (rI (u1.1 271 43)) ∧ (if u1.1 271 43 = 0 then ((0 ≤ (u1.1 271 61) - 1) ∧ (((u1.1 271 61) - 1 < 17) ∧ ((rI (u1.1 316 ((u1.1 271 61) - 1))) ∧ (if u1.1 316 ((u1.1 271 61) - 1) = (-2) then (cI d 253 [.ref 271, iV (-1)] u1 (fun r9 u8 => ∀ u10 : uS, u10 = wr u8 316 ((u1.1 271 61) - 1) (-2) → ((rI (u10.1 315 ((u1.1 271 61) - 1))) ∧ (if u10.1 315 ((u1.1 271 61) - 1) = (-2) then (∀ u14 : uS, u14 = wr u10 315 ((u1.1 271 61) - 1) r9 → (Q u14)) else (cI d 257 [.ref 271, iV (u10.1 315 ((u1.1 271 61) - 1)), iV r9, iV 0] u10 (fun r17 u16 => ∀ u18 : uS, u18 = wr u16 315 ((u1.1 271 61) - 1) r17 → (Q u18))))))) else (∀ u20 : uS, u20 = wr u1 316 ((u1.1 271 61) - 1) (-2) → ((rI (u20.1 315 ((u1.1 271 61) - 1))) ∧ (if u20.1 315 ((u1.1 271 61) - 1) = (-2) then (∀ u24 : uS, u24 = wr u20 315 ((u1.1 271 61) - 1) (u1.1 316 ((u1.1 271 61) - 1)) → (Q u24)) else (cI d 257 [.ref 271, iV (u20.1 315 ((u1.1 271 61) - 1)), iV (u1.1 316 ((u1.1 271 61) - 1)), iV 0] u20 (fun r27 u26 => ∀ u28 : uS, u28 = wr u26 315 ((u1.1 271 61) - 1) r27 → (Q u28)))))))))) else (Q u1)))) : cV (d + 1) 256 [.ref 271] u Q := by
  refine u_of me_256 (Nat.le_of_ble_eq_true rfl) ?_
  refine u_ld (v := .ref 271) (pc := 0) (dec_at lsk_256 (k := 0) rfl) rfl ?_
  refine u_cvV (As := []) (rb := 271) (st2 := []) (pc := 1) (dec_at lsk_256 (k := 1) rfl) m_12_436 (Or.inl rfl) rfl (Nat.le_of_ble_eq_true rfl) sx_271 me_241 rfl h (fun u1 h => ?_)
  refine u_ld (v := .ref 271) (pc := 4) (dec_at lsk_256 (k := 2) rfl) rfl ?_
  refine u_gI (z := 61) (pc := 5) (dec_at lsk_256 (k := 3) rfl) f_12_425 sx_271 rfl rfl ?_
  refine u_ld (v := iV 1) (pc := 8) (dec_at lsk_256 (k := 4) rfl) rfl ?_
  refine u_isub (pc := 9) (dec_at lsk_256 (k := 5) rfl) ?_
  refine u_sto (lv' := [.ref 271, iV ((u1.1 271 61) - 1), .retAddr 0]) (pc := 10) (dec_at lsk_256 (k := 6) rfl) rfl ?_
  refine u_ld (v := .ref 271) (pc := 11) (dec_at lsk_256 (k := 7) rfl) rfl ?_
  refine u_gZ (z := 43) (pc := 12) (dec_at lsk_256 (k := 8) rfl) f_12_394 sx_271 rfl rfl ?_
  have g2 := h.1
  have h := h.2
  refine u_ifT (pc := 15) (tgt := 19) (dec_at lsk_256 (k := 9) rfl) rfl (c0_eq g2) (fun e3 => ?_) (fun e3 => ?_)
  · have h := ifT e3 h
    refine u_ld (v := .ref 271) (pc := 19) (dec_at lsk_256 (k := 11) rfl) rfl ?_
    refine u_gS (o := 45) (p := 316) (pc := 20) (dec_at lsk_256 (k := 12) rfl) f_12_145 sx_271 rfl rfl ?_
    refine u_ld (v := iV ((u1.1 271 61) - 1)) (pc := 23) (dec_at lsk_256 (k := 13) rfl) rfl ?_
    have g4 := h.1
    have h := h.2
    have g5 := h.1
    have h := h.2
    refine u_iald (pc := 24) (dec_at lsk_256 (k := 14) rfl) sx_316 g4 g5 ?_
    refine u_c (x := (-2)) (pc := 25) (dec_at lsk_256 (k := 15) rfl) rfl (by decide) ?_
    have g6 := h.1
    have h := h.2
    refine u_icF (pc := 27) (tgt := 38) (dec_at lsk_256 (k := 16) rfl) rfl (ci_ne g6 (by decide)) (fun e7 => ?_) (fun e7 => ?_)
    · have h := ifT e7 h
      refine u_ld (v := .ref 271) (pc := 30) (dec_at lsk_256 (k := 17) rfl) rfl ?_
      refine u_ld (v := iV (-1)) (pc := 31) (dec_at lsk_256 (k := 18) rfl) rfl ?_
      refine u_cvI (As := [iV (-1)]) (rb := 271) (st2 := []) (pc := 32) (dec_at lsk_256 (k := 19) rfl) m_12_439 (Or.inl rfl) rfl (Nat.le_of_ble_eq_true rfl) sx_271 me_253 rfl h (fun r9 u8 h => ?_)
      refine u_goto (pc := 35) (tgt := 44) (dec_at lsk_256 (k := 20) rfl) rfl ?_
      refine u_sto (lv' := [.ref 271, iV ((u1.1 271 61) - 1), iV r9]) (pc := 44) (dec_at lsk_256 (k := 25) rfl) rfl ?_
      refine u_ld (v := .ref 271) (pc := 45) (dec_at lsk_256 (k := 26) rfl) rfl ?_
      refine u_gS (o := 45) (p := 316) (pc := 46) (dec_at lsk_256 (k := 27) rfl) f_12_145 sx_271 rfl rfl ?_
      refine u_ld (v := iV ((u1.1 271 61) - 1)) (pc := 49) (dec_at lsk_256 (k := 28) rfl) rfl ?_
      refine u_c (x := (-2)) (pc := 50) (dec_at lsk_256 (k := 29) rfl) rfl (by decide) ?_
      refine u_iast (pc := 52) (dec_at lsk_256 (k := 30) rfl) sx_316 g4 g5 (fun u10 e11 => ?_)
      have h := h u10 e11
      refine u_ld (v := .ref 271) (pc := 53) (dec_at lsk_256 (k := 31) rfl) rfl ?_
      refine u_gS (o := 44) (p := 315) (pc := 54) (dec_at lsk_256 (k := 32) rfl) f_12_142 sx_271 rfl rfl ?_
      refine u_ld (v := iV ((u1.1 271 61) - 1)) (pc := 57) (dec_at lsk_256 (k := 33) rfl) rfl ?_
      refine u_ld (v := .ref 271) (pc := 58) (dec_at lsk_256 (k := 34) rfl) rfl ?_
      refine u_gS (o := 44) (p := 315) (pc := 59) (dec_at lsk_256 (k := 35) rfl) f_12_142 sx_271 rfl rfl ?_
      refine u_ld (v := iV ((u1.1 271 61) - 1)) (pc := 62) (dec_at lsk_256 (k := 36) rfl) rfl ?_
      refine u_iald (pc := 63) (dec_at lsk_256 (k := 37) rfl) sx_315 g4 g5 ?_
      refine u_c (x := (-2)) (pc := 64) (dec_at lsk_256 (k := 38) rfl) rfl (by decide) ?_
      have g12 := h.1
      have h := h.2
      refine u_icF (pc := 66) (tgt := 73) (dec_at lsk_256 (k := 39) rfl) rfl (ci_ne g12 (by decide)) (fun e13 => ?_) (fun e13 => ?_)
      · have h := ifT e13 h
        refine u_ld (v := iV r9) (pc := 69) (dec_at lsk_256 (k := 40) rfl) rfl ?_
        refine u_goto (pc := 70) (tgt := 85) (dec_at lsk_256 (k := 41) rfl) rfl ?_
        refine u_iast (pc := 85) (dec_at lsk_256 (k := 50) rfl) sx_315 g4 g5 (fun u14 e15 => ?_)
        have h := h u14 e15
        exact u_rV (pc := 86) (dec_at lsk_256 (k := 51) rfl) rfl h
      · have h := ifF e13 h
        refine u_ld (v := .ref 271) (pc := 73) (dec_at lsk_256 (k := 42) rfl) rfl ?_
        refine u_ld (v := .ref 271) (pc := 74) (dec_at lsk_256 (k := 43) rfl) rfl ?_
        refine u_gS (o := 44) (p := 315) (pc := 75) (dec_at lsk_256 (k := 44) rfl) f_12_142 sx_271 rfl rfl ?_
        refine u_ld (v := iV ((u1.1 271 61) - 1)) (pc := 78) (dec_at lsk_256 (k := 45) rfl) rfl ?_
        refine u_iald (pc := 79) (dec_at lsk_256 (k := 46) rfl) sx_315 g4 g5 ?_
        refine u_ld (v := iV r9) (pc := 80) (dec_at lsk_256 (k := 47) rfl) rfl ?_
        refine u_ld (v := iV 0) (pc := 81) (dec_at lsk_256 (k := 48) rfl) rfl ?_
        refine u_cvI (As := [iV (u10.1 315 ((u1.1 271 61) - 1)), iV r9, iV 0]) (rb := 271) (st2 := [iV ((u1.1 271 61) - 1), .ref 315]) (pc := 82) (dec_at lsk_256 (k := 49) rfl) m_12_442 (Or.inl rfl) rfl (Nat.le_of_ble_eq_true rfl) sx_271 me_257 rfl h (fun r17 u16 h => ?_)
        refine u_iast (pc := 85) (dec_at lsk_256 (k := 50) rfl) sx_315 g4 g5 (fun u18 e19 => ?_)
        have h := h u18 e19
        exact u_rV (pc := 86) (dec_at lsk_256 (k := 51) rfl) rfl h
    · have h := ifF e7 h
      refine u_ld (v := .ref 271) (pc := 38) (dec_at lsk_256 (k := 21) rfl) rfl ?_
      refine u_gS (o := 45) (p := 316) (pc := 39) (dec_at lsk_256 (k := 22) rfl) f_12_145 sx_271 rfl rfl ?_
      refine u_ld (v := iV ((u1.1 271 61) - 1)) (pc := 42) (dec_at lsk_256 (k := 23) rfl) rfl ?_
      refine u_iald (pc := 43) (dec_at lsk_256 (k := 24) rfl) sx_316 g4 g5 ?_
      refine u_sto (lv' := [.ref 271, iV ((u1.1 271 61) - 1), iV (u1.1 316 ((u1.1 271 61) - 1))]) (pc := 44) (dec_at lsk_256 (k := 25) rfl) rfl ?_
      refine u_ld (v := .ref 271) (pc := 45) (dec_at lsk_256 (k := 26) rfl) rfl ?_
      refine u_gS (o := 45) (p := 316) (pc := 46) (dec_at lsk_256 (k := 27) rfl) f_12_145 sx_271 rfl rfl ?_
      refine u_ld (v := iV ((u1.1 271 61) - 1)) (pc := 49) (dec_at lsk_256 (k := 28) rfl) rfl ?_
      refine u_c (x := (-2)) (pc := 50) (dec_at lsk_256 (k := 29) rfl) rfl (by decide) ?_
      refine u_iast (pc := 52) (dec_at lsk_256 (k := 30) rfl) sx_316 g4 g5 (fun u20 e21 => ?_)
      have h := h u20 e21
      refine u_ld (v := .ref 271) (pc := 53) (dec_at lsk_256 (k := 31) rfl) rfl ?_
      refine u_gS (o := 44) (p := 315) (pc := 54) (dec_at lsk_256 (k := 32) rfl) f_12_142 sx_271 rfl rfl ?_
      refine u_ld (v := iV ((u1.1 271 61) - 1)) (pc := 57) (dec_at lsk_256 (k := 33) rfl) rfl ?_
      refine u_ld (v := .ref 271) (pc := 58) (dec_at lsk_256 (k := 34) rfl) rfl ?_
      refine u_gS (o := 44) (p := 315) (pc := 59) (dec_at lsk_256 (k := 35) rfl) f_12_142 sx_271 rfl rfl ?_
      refine u_ld (v := iV ((u1.1 271 61) - 1)) (pc := 62) (dec_at lsk_256 (k := 36) rfl) rfl ?_
      refine u_iald (pc := 63) (dec_at lsk_256 (k := 37) rfl) sx_315 g4 g5 ?_
      refine u_c (x := (-2)) (pc := 64) (dec_at lsk_256 (k := 38) rfl) rfl (by decide) ?_
      have g22 := h.1
      have h := h.2
      refine u_icF (pc := 66) (tgt := 73) (dec_at lsk_256 (k := 39) rfl) rfl (ci_ne g22 (by decide)) (fun e23 => ?_) (fun e23 => ?_)
      · have h := ifT e23 h
        refine u_ld (v := iV (u1.1 316 ((u1.1 271 61) - 1))) (pc := 69) (dec_at lsk_256 (k := 40) rfl) rfl ?_
        refine u_goto (pc := 70) (tgt := 85) (dec_at lsk_256 (k := 41) rfl) rfl ?_
        refine u_iast (pc := 85) (dec_at lsk_256 (k := 50) rfl) sx_315 g4 g5 (fun u24 e25 => ?_)
        have h := h u24 e25
        exact u_rV (pc := 86) (dec_at lsk_256 (k := 51) rfl) rfl h
      · have h := ifF e23 h
        refine u_ld (v := .ref 271) (pc := 73) (dec_at lsk_256 (k := 42) rfl) rfl ?_
        refine u_ld (v := .ref 271) (pc := 74) (dec_at lsk_256 (k := 43) rfl) rfl ?_
        refine u_gS (o := 44) (p := 315) (pc := 75) (dec_at lsk_256 (k := 44) rfl) f_12_142 sx_271 rfl rfl ?_
        refine u_ld (v := iV ((u1.1 271 61) - 1)) (pc := 78) (dec_at lsk_256 (k := 45) rfl) rfl ?_
        refine u_iald (pc := 79) (dec_at lsk_256 (k := 46) rfl) sx_315 g4 g5 ?_
        refine u_ld (v := iV (u1.1 316 ((u1.1 271 61) - 1))) (pc := 80) (dec_at lsk_256 (k := 47) rfl) rfl ?_
        refine u_ld (v := iV 0) (pc := 81) (dec_at lsk_256 (k := 48) rfl) rfl ?_
        refine u_cvI (As := [iV (u20.1 315 ((u1.1 271 61) - 1)), iV (u1.1 316 ((u1.1 271 61) - 1)), iV 0]) (rb := 271) (st2 := [iV ((u1.1 271 61) - 1), .ref 315]) (pc := 82) (dec_at lsk_256 (k := 49) rfl) m_12_442 (Or.inl rfl) rfl (Nat.le_of_ble_eq_true rfl) sx_271 me_257 rfl h (fun r27 u26 h => ?_)
        refine u_iast (pc := 85) (dec_at lsk_256 (k := 50) rfl) sx_315 g4 g5 (fun u28 e29 => ?_)
        have h := h u28 e29
        exact u_rV (pc := 86) (dec_at lsk_256 (k := 51) rfl) rfl h
  · have h := ifF e3 h
    exact u_rV (pc := 18) (dec_at lsk_256 (k := 10) rfl) rfl h
/-- method 257 -/
def K_257 (d pc : Nat) (lv : ev_L) (st : List Value) (u : uS) (Q : Int → uS → Prop) : Prop := okU d 12 10 false (some .int) prog_14_method_43_code (qI Q) pc lv st u
theorem e_257 {d : Nat} {Q : Int → uS → Prop} {u : uS} {l1 l2 l3 : Int} (h : cV (d + 1) 245 [.ref 271] u (fun u1 => cI (d + 1) 246 [.ref 271, iV 0, lV 0] u1 (fun r3 u2 => K_257 (d + 1) 14 [.ref 271, iV l1, iV l2, iV l3, iV 0, .retAddr 0, .retAddr 0, .retAddr 0, .retAddr 0, .retAddr 0] [] u2 Q))) : cI (d + 2) 257 [.ref 271, iV l1, iV l2, iV l3] u Q := by
  refine u_of me_257 (Nat.le_of_ble_eq_true rfl) ?_
  refine u_ld (v := .ref 271) (pc := 0) (dec_at lsk_257 (k := 0) rfl) rfl ?_
  refine u_cvV (As := []) (rb := 271) (st2 := []) (pc := 1) (dec_at lsk_257 (k := 1) rfl) m_12_381 (Or.inl rfl) rfl (Nat.le_of_ble_eq_true rfl) sx_271 me_245 rfl h (fun u1 h => ?_)
  refine u_ld (v := .ref 271) (pc := 4) (dec_at lsk_257 (k := 2) rfl) rfl ?_
  refine u_ld (v := iV 0) (pc := 5) (dec_at lsk_257 (k := 3) rfl) rfl ?_
  refine u_cl (x := 0) (pc := 6) (dec_at lsk_257 (k := 4) rfl) rfl (by decide) ?_
  refine u_cvI (As := [iV 0, lV 0]) (rb := 271) (st2 := []) (pc := 7) (dec_at lsk_257 (k := 5) rfl) m_12_397 (Or.inl rfl) rfl (Nat.le_of_ble_eq_true rfl) sx_271 me_246 rfl h (fun r3 u2 h => ?_)
  refine u_st (st' := []) (pc := 10) (dec_at lsk_257 (k := 6) rfl) rfl ?_
  refine u_ld (v := iV 0) (pc := 11) (dec_at lsk_257 (k := 7) rfl) rfl ?_
  refine u_sto (lv' := [.ref 271, iV l1, iV l2, iV l3, iV 0, .retAddr 0, .retAddr 0, .retAddr 0, .retAddr 0, .retAddr 0]) (pc := 12) (dec_at lsk_257 (k := 8) rfl) rfl ?_
  exact h
theorem k_257_14 {d : Nat} {Q : Int → uS → Prop} {u : uS} {l1 l2 l3 l4 : Int} (h : (rI l4) ∧ ((rI (u.1 271 44)) ∧ (if l4 < u.1 271 44 then ((rI (u.1 271 43)) ∧ (if u.1 271 43 = 0 then ((0 ≤ l4) ∧ ((l4 < 2001) ∧ ((0 ≤ (40 * l1) + (u.1 304 l4)) ∧ (((40 * l1) + (u.1 304 l4) < 4000) ∧ ((0 ≤ (40 * l2) + (wI (u.1 305 l4))) ∧ (((40 * l2) + (wI (u.1 305 l4)) < 4000) ∧ ((rI l3) ∧ (if l3 = 0 then ((rI (u.1 303 ((40 * l1) + (u.1 304 l4)))) ∧ (if u.1 303 ((40 * l1) + (u.1 304 l4)) = 0 then ((rI (u.1 303 ((40 * l2) + (wI (u.1 305 l4))))) ∧ (if u.1 303 ((40 * l2) + (wI (u.1 305 l4))) = 0 then (∀ u18 : uS, u18 = wr u 307 l4 0 → (K_257 (d + 1) 124 [.ref 271, iV l1, iV l2, iV l3, iV l4, iV (u.1 304 l4), iV (wI (u.1 305 l4)), .retAddr 0, .retAddr 0, iV 0] [] u18 Q)) else (∀ u20 : uS, u20 = wr u 307 l4 1 → (K_257 (d + 1) 124 [.ref 271, iV l1, iV l2, iV l3, iV l4, iV (u.1 304 l4), iV (wI (u.1 305 l4)), .retAddr 0, .retAddr 0, iV 0] [] u20 Q)))) else (∀ u22 : uS, u22 = wr u 307 l4 1 → (K_257 (d + 1) 124 [.ref 271, iV l1, iV l2, iV l3, iV l4, iV (u.1 304 l4), iV (wI (u.1 305 l4)), .retAddr 0, .retAddr 0, iV 0] [] u22 Q)))) else ((rI (u.1 303 ((40 * l1) + (u.1 304 l4)))) ∧ (if u.1 303 ((40 * l1) + (u.1 304 l4)) = 0 then (∀ u26 : uS, u26 = wr u 307 l4 0 → (K_257 (d + 1) 124 [.ref 271, iV l1, iV l2, iV l3, iV l4, iV (u.1 304 l4), iV (wI (u.1 305 l4)), .retAddr 0, .retAddr 0, iV 0] [] u26 Q)) else ((rI (u.1 303 ((40 * l2) + (wI (u.1 305 l4))))) ∧ (if u.1 303 ((40 * l2) + (wI (u.1 305 l4))) = 0 then (∀ u30 : uS, u30 = wr u 307 l4 0 → (K_257 (d + 1) 124 [.ref 271, iV l1, iV l2, iV l3, iV l4, iV (u.1 304 l4), iV (wI (u.1 305 l4)), .retAddr 0, .retAddr 0, iV 0] [] u30 Q)) else (∀ u32 : uS, u32 = wr u 307 l4 1 → (K_257 (d + 1) 124 [.ref 271, iV l1, iV l2, iV l3, iV l4, iV (u.1 304 l4), iV (wI (u.1 305 l4)), .retAddr 0, .retAddr 0, iV 0] [] u32 Q)))))))))))))) else (∀ u34 : uS, u34 = wr u 271 42 ((u.1 271 42) + 1) → (cV (d + 1) 249 [.ref 271, iV ((u34.1 271 42) - 1)] u34 (fun u36 => Q ((u34.1 271 42) - 1) u36))))) else (∀ u37 : uS, u37 = wr u 271 42 ((u.1 271 42) + 1) → (cV (d + 1) 249 [.ref 271, iV ((u37.1 271 42) - 1)] u37 (fun u39 => Q ((u37.1 271 42) - 1) u39)))))) : K_257 (d + 1) 14 [.ref 271, iV l1, iV l2, iV l3, iV l4, .retAddr 0, .retAddr 0, .retAddr 0, .retAddr 0, .retAddr 0] [] u Q := by
  unfold K_257
  refine u_ld (v := iV l4) (pc := 14) (dec_at lsk_257 (k := 9) rfl) rfl ?_
  refine u_ld (v := .ref 271) (pc := 16) (dec_at lsk_257 (k := 10) rfl) rfl ?_
  refine u_gI (z := 44) (pc := 17) (dec_at lsk_257 (k := 11) rfl) f_12_384 sx_271 rfl rfl ?_
  have g1 := h.1
  have h := h.2
  have g2 := h.1
  have h := h.2
  refine u_icF (pc := 20) (tgt := 199) (dec_at lsk_257 (k := 12) rfl) rfl (ci_ge g1 g2) (fun e3 => ?_) (fun e3 => ?_)
  · have h := ifT e3 h
    refine u_ld (v := .ref 271) (pc := 23) (dec_at lsk_257 (k := 13) rfl) rfl ?_
    refine u_gZ (z := 43) (pc := 24) (dec_at lsk_257 (k := 14) rfl) f_12_394 sx_271 rfl rfl ?_
    have g4 := h.1
    have h := h.2
    refine u_ifF (pc := 27) (tgt := 199) (dec_at lsk_257 (k := 15) rfl) rfl (c0_ne g4) (fun e5 => ?_) (fun e5 => ?_)
    · have h := ifT e5 h
      refine u_ld (v := .ref 271) (pc := 30) (dec_at lsk_257 (k := 16) rfl) rfl ?_
      refine u_gS (o := 33) (p := 304) (pc := 31) (dec_at lsk_257 (k := 17) rfl) f_12_109 sx_271 rfl rfl ?_
      refine u_ld (v := iV l4) (pc := 34) (dec_at lsk_257 (k := 18) rfl) rfl ?_
      have g6 := h.1
      have h := h.2
      have g7 := h.1
      have h := h.2
      refine u_iald (pc := 36) (dec_at lsk_257 (k := 19) rfl) sx_304 g6 g7 ?_
      refine u_sto (lv' := [.ref 271, iV l1, iV l2, iV l3, iV l4, iV (u.1 304 l4), .retAddr 0, .retAddr 0, .retAddr 0, .retAddr 0]) (pc := 37) (dec_at lsk_257 (k := 20) rfl) rfl ?_
      refine u_ld (v := .ref 271) (pc := 39) (dec_at lsk_257 (k := 21) rfl) rfl ?_
      refine u_gS (o := 34) (p := 305) (pc := 40) (dec_at lsk_257 (k := 22) rfl) f_12_112 sx_271 rfl rfl ?_
      refine u_ld (v := iV l4) (pc := 43) (dec_at lsk_257 (k := 23) rfl) rfl ?_
      refine u_lald (pc := 45) (dec_at lsk_257 (k := 24) rfl) sx_305 g6 g7 ?_
      refine u_l2w (pc := 46) (dec_at lsk_257 (k := 25) rfl) ?_
      refine u_sto (lv' := [.ref 271, iV l1, iV l2, iV l3, iV l4, iV (u.1 304 l4), iV (wI (u.1 305 l4)), .retAddr 0, .retAddr 0, .retAddr 0]) (pc := 47) (dec_at lsk_257 (k := 26) rfl) rfl ?_
      refine u_ld (v := .ref 271) (pc := 49) (dec_at lsk_257 (k := 27) rfl) rfl ?_
      refine u_gS (o := 32) (p := 303) (pc := 50) (dec_at lsk_257 (k := 28) rfl) f_12_106 sx_271 rfl rfl ?_
      refine u_c (x := 40) (pc := 53) (dec_at lsk_257 (k := 29) rfl) rfl (by decide) ?_
      refine u_ld (v := iV l1) (pc := 55) (dec_at lsk_257 (k := 30) rfl) rfl ?_
      refine u_imul (pc := 56) (dec_at lsk_257 (k := 31) rfl) ?_
      refine u_ld (v := iV (u.1 304 l4)) (pc := 57) (dec_at lsk_257 (k := 32) rfl) rfl ?_
      refine u_iadd (pc := 59) (dec_at lsk_257 (k := 33) rfl) ?_
      have g8 := h.1
      have h := h.2
      have g9 := h.1
      have h := h.2
      refine u_zald (pc := 60) (dec_at lsk_257 (k := 34) rfl) sx_303 g8 g9 ?_
      refine u_sto (lv' := [.ref 271, iV l1, iV l2, iV l3, iV l4, iV (u.1 304 l4), iV (wI (u.1 305 l4)), iV (u.1 303 ((40 * l1) + (u.1 304 l4))), .retAddr 0, .retAddr 0]) (pc := 61) (dec_at lsk_257 (k := 35) rfl) rfl ?_
      refine u_ld (v := .ref 271) (pc := 63) (dec_at lsk_257 (k := 36) rfl) rfl ?_
      refine u_gS (o := 32) (p := 303) (pc := 64) (dec_at lsk_257 (k := 37) rfl) f_12_106 sx_271 rfl rfl ?_
      refine u_c (x := 40) (pc := 67) (dec_at lsk_257 (k := 38) rfl) rfl (by decide) ?_
      refine u_ld (v := iV l2) (pc := 69) (dec_at lsk_257 (k := 39) rfl) rfl ?_
      refine u_imul (pc := 70) (dec_at lsk_257 (k := 40) rfl) ?_
      refine u_ld (v := iV (wI (u.1 305 l4))) (pc := 71) (dec_at lsk_257 (k := 41) rfl) rfl ?_
      refine u_iadd (pc := 73) (dec_at lsk_257 (k := 42) rfl) ?_
      have g10 := h.1
      have h := h.2
      have g11 := h.1
      have h := h.2
      refine u_zald (pc := 74) (dec_at lsk_257 (k := 43) rfl) sx_303 g10 g11 ?_
      refine u_sto (lv' := [.ref 271, iV l1, iV l2, iV l3, iV l4, iV (u.1 304 l4), iV (wI (u.1 305 l4)), iV (u.1 303 ((40 * l1) + (u.1 304 l4))), iV (u.1 303 ((40 * l2) + (wI (u.1 305 l4)))), .retAddr 0]) (pc := 75) (dec_at lsk_257 (k := 44) rfl) rfl ?_
      refine u_ld (v := .ref 271) (pc := 77) (dec_at lsk_257 (k := 45) rfl) rfl ?_
      refine u_gS (o := 36) (p := 307) (pc := 78) (dec_at lsk_257 (k := 46) rfl) f_12_118 sx_271 rfl rfl ?_
      refine u_ld (v := iV l4) (pc := 81) (dec_at lsk_257 (k := 47) rfl) rfl ?_
      refine u_ld (v := iV l3) (pc := 83) (dec_at lsk_257 (k := 48) rfl) rfl ?_
      have g12 := h.1
      have h := h.2
      refine u_ifF (pc := 84) (tgt := 105) (dec_at lsk_257 (k := 49) rfl) rfl (c0_ne g12) (fun e13 => ?_) (fun e13 => ?_)
      · have h := ifT e13 h
        refine u_ld (v := iV (u.1 303 ((40 * l1) + (u.1 304 l4)))) (pc := 87) (dec_at lsk_257 (k := 50) rfl) rfl ?_
        have g14 := h.1
        have h := h.2
        refine u_ifF (pc := 89) (tgt := 97) (dec_at lsk_257 (k := 51) rfl) rfl (c0_ne g14) (fun e15 => ?_) (fun e15 => ?_)
        · have h := ifT e15 h
          refine u_ld (v := iV (u.1 303 ((40 * l2) + (wI (u.1 305 l4))))) (pc := 92) (dec_at lsk_257 (k := 52) rfl) rfl ?_
          have g16 := h.1
          have h := h.2
          refine u_ifT (pc := 94) (tgt := 101) (dec_at lsk_257 (k := 53) rfl) rfl (c0_eq g16) (fun e17 => ?_) (fun e17 => ?_)
          · have h := ifT e17 h
            refine u_ld (v := iV 0) (pc := 101) (dec_at lsk_257 (k := 56) rfl) rfl ?_
            refine u_goto (pc := 102) (tgt := 120) (dec_at lsk_257 (k := 57) rfl) rfl ?_
            refine u_zast (pc := 120) (dec_at lsk_257 (k := 65) rfl) sx_307 g6 g7 (by decide) (fun u18 e19 => ?_)
            have h := h u18 e19
            refine u_ld (v := iV 0) (pc := 121) (dec_at lsk_257 (k := 66) rfl) rfl ?_
            refine u_sto (lv' := [.ref 271, iV l1, iV l2, iV l3, iV l4, iV (u.1 304 l4), iV (wI (u.1 305 l4)), iV (u.1 303 ((40 * l1) + (u.1 304 l4))), iV (u.1 303 ((40 * l2) + (wI (u.1 305 l4)))), iV 0]) (pc := 122) (dec_at lsk_257 (k := 67) rfl) rfl ?_
            exact u_weak (sbK (sbK (sbK (sbK (sbK (sbK (sbK (sbD (sbD (sbK sb0)))))))))) h
          · have h := ifF e17 h
            refine u_ld (v := iV 1) (pc := 97) (dec_at lsk_257 (k := 54) rfl) rfl ?_
            refine u_goto (pc := 98) (tgt := 120) (dec_at lsk_257 (k := 55) rfl) rfl ?_
            refine u_zast (pc := 120) (dec_at lsk_257 (k := 65) rfl) sx_307 g6 g7 (by decide) (fun u20 e21 => ?_)
            have h := h u20 e21
            refine u_ld (v := iV 0) (pc := 121) (dec_at lsk_257 (k := 66) rfl) rfl ?_
            refine u_sto (lv' := [.ref 271, iV l1, iV l2, iV l3, iV l4, iV (u.1 304 l4), iV (wI (u.1 305 l4)), iV (u.1 303 ((40 * l1) + (u.1 304 l4))), iV (u.1 303 ((40 * l2) + (wI (u.1 305 l4)))), iV 0]) (pc := 122) (dec_at lsk_257 (k := 67) rfl) rfl ?_
            exact u_weak (sbK (sbK (sbK (sbK (sbK (sbK (sbK (sbD (sbD (sbK sb0)))))))))) h
        · have h := ifF e15 h
          refine u_ld (v := iV 1) (pc := 97) (dec_at lsk_257 (k := 54) rfl) rfl ?_
          refine u_goto (pc := 98) (tgt := 120) (dec_at lsk_257 (k := 55) rfl) rfl ?_
          refine u_zast (pc := 120) (dec_at lsk_257 (k := 65) rfl) sx_307 g6 g7 (by decide) (fun u22 e23 => ?_)
          have h := h u22 e23
          refine u_ld (v := iV 0) (pc := 121) (dec_at lsk_257 (k := 66) rfl) rfl ?_
          refine u_sto (lv' := [.ref 271, iV l1, iV l2, iV l3, iV l4, iV (u.1 304 l4), iV (wI (u.1 305 l4)), iV (u.1 303 ((40 * l1) + (u.1 304 l4))), iV (u.1 303 ((40 * l2) + (wI (u.1 305 l4)))), iV 0]) (pc := 122) (dec_at lsk_257 (k := 67) rfl) rfl ?_
          exact u_weak (sbK (sbK (sbK (sbK (sbK (sbK (sbK (sbD (sbD (sbK sb0)))))))))) h
      · have h := ifF e13 h
        refine u_ld (v := iV (u.1 303 ((40 * l1) + (u.1 304 l4)))) (pc := 105) (dec_at lsk_257 (k := 58) rfl) rfl ?_
        have g24 := h.1
        have h := h.2
        refine u_ifT (pc := 107) (tgt := 119) (dec_at lsk_257 (k := 59) rfl) rfl (c0_eq g24) (fun e25 => ?_) (fun e25 => ?_)
        · have h := ifT e25 h
          refine u_ld (v := iV 0) (pc := 119) (dec_at lsk_257 (k := 64) rfl) rfl ?_
          refine u_zast (pc := 120) (dec_at lsk_257 (k := 65) rfl) sx_307 g6 g7 (by decide) (fun u26 e27 => ?_)
          have h := h u26 e27
          refine u_ld (v := iV 0) (pc := 121) (dec_at lsk_257 (k := 66) rfl) rfl ?_
          refine u_sto (lv' := [.ref 271, iV l1, iV l2, iV l3, iV l4, iV (u.1 304 l4), iV (wI (u.1 305 l4)), iV (u.1 303 ((40 * l1) + (u.1 304 l4))), iV (u.1 303 ((40 * l2) + (wI (u.1 305 l4)))), iV 0]) (pc := 122) (dec_at lsk_257 (k := 67) rfl) rfl ?_
          exact u_weak (sbK (sbK (sbK (sbK (sbK (sbK (sbK (sbD (sbD (sbK sb0)))))))))) h
        · have h := ifF e25 h
          refine u_ld (v := iV (u.1 303 ((40 * l2) + (wI (u.1 305 l4))))) (pc := 110) (dec_at lsk_257 (k := 60) rfl) rfl ?_
          have g28 := h.1
          have h := h.2
          refine u_ifT (pc := 112) (tgt := 119) (dec_at lsk_257 (k := 61) rfl) rfl (c0_eq g28) (fun e29 => ?_) (fun e29 => ?_)
          · have h := ifT e29 h
            refine u_ld (v := iV 0) (pc := 119) (dec_at lsk_257 (k := 64) rfl) rfl ?_
            refine u_zast (pc := 120) (dec_at lsk_257 (k := 65) rfl) sx_307 g6 g7 (by decide) (fun u30 e31 => ?_)
            have h := h u30 e31
            refine u_ld (v := iV 0) (pc := 121) (dec_at lsk_257 (k := 66) rfl) rfl ?_
            refine u_sto (lv' := [.ref 271, iV l1, iV l2, iV l3, iV l4, iV (u.1 304 l4), iV (wI (u.1 305 l4)), iV (u.1 303 ((40 * l1) + (u.1 304 l4))), iV (u.1 303 ((40 * l2) + (wI (u.1 305 l4)))), iV 0]) (pc := 122) (dec_at lsk_257 (k := 67) rfl) rfl ?_
            exact u_weak (sbK (sbK (sbK (sbK (sbK (sbK (sbK (sbD (sbD (sbK sb0)))))))))) h
          · have h := ifF e29 h
            refine u_ld (v := iV 1) (pc := 115) (dec_at lsk_257 (k := 62) rfl) rfl ?_
            refine u_goto (pc := 116) (tgt := 120) (dec_at lsk_257 (k := 63) rfl) rfl ?_
            refine u_zast (pc := 120) (dec_at lsk_257 (k := 65) rfl) sx_307 g6 g7 (by decide) (fun u32 e33 => ?_)
            have h := h u32 e33
            refine u_ld (v := iV 0) (pc := 121) (dec_at lsk_257 (k := 66) rfl) rfl ?_
            refine u_sto (lv' := [.ref 271, iV l1, iV l2, iV l3, iV l4, iV (u.1 304 l4), iV (wI (u.1 305 l4)), iV (u.1 303 ((40 * l1) + (u.1 304 l4))), iV (u.1 303 ((40 * l2) + (wI (u.1 305 l4)))), iV 0]) (pc := 122) (dec_at lsk_257 (k := 67) rfl) rfl ?_
            exact u_weak (sbK (sbK (sbK (sbK (sbK (sbK (sbK (sbD (sbD (sbK sb0)))))))))) h
    · have h := ifF e5 h
      refine u_ld (v := .ref 271) (pc := 199) (dec_at lsk_257 (k := 110) rfl) rfl ?_
      refine u_cvI (As := []) (rb := 271) (st2 := []) (pc := 200) (dec_at lsk_257 (k := 111) rfl) m_12_378 (Or.inl rfl) rfl (Nat.le_of_ble_eq_true rfl) sx_271 me_243 rfl ?_ (fun _ _ h_ => h_)
      refine u_of me_243 (Nat.le_of_ble_eq_true rfl) ?_
      refine u_ld (v := .ref 271) (pc := 0) (dec_at lsk_243 (k := 0) rfl) rfl ?_
      refine u_ld (v := .ref 271) (pc := 1) (dec_at lsk_243 (k := 1) rfl) rfl ?_
      refine u_gI (z := 42) (pc := 2) (dec_at lsk_243 (k := 2) rfl) f_12_375 sx_271 rfl rfl ?_
      refine u_ld (v := iV 1) (pc := 5) (dec_at lsk_243 (k := 3) rfl) rfl ?_
      refine u_iadd (pc := 6) (dec_at lsk_243 (k := 4) rfl) ?_
      refine u_pI (z := 42) (pc := 7) (dec_at lsk_243 (k := 5) rfl) f_12_375 sx_271 rfl rfl rfl rfl (fun u34 e35 => ?_)
      have h := h u34 e35
      refine u_ld (v := .ref 271) (pc := 10) (dec_at lsk_243 (k := 6) rfl) rfl ?_
      refine u_gI (z := 42) (pc := 11) (dec_at lsk_243 (k := 7) rfl) f_12_375 sx_271 rfl rfl ?_
      refine u_ld (v := iV 1) (pc := 14) (dec_at lsk_243 (k := 8) rfl) rfl ?_
      refine u_isub (pc := 15) (dec_at lsk_243 (k := 9) rfl) ?_
      refine u_rI (pc := 16) (dec_at lsk_243 (k := 10) rfl) rfl ?_
      refine u_sto (lv' := [.ref 271, iV l1, iV l2, iV l3, iV ((u34.1 271 42) - 1), .retAddr 0, .retAddr 0, .retAddr 0, .retAddr 0, .retAddr 0]) (pc := 203) (dec_at lsk_257 (k := 112) rfl) rfl ?_
      refine u_ld (v := .ref 271) (pc := 205) (dec_at lsk_257 (k := 113) rfl) rfl ?_
      refine u_ld (v := iV ((u34.1 271 42) - 1)) (pc := 206) (dec_at lsk_257 (k := 114) rfl) rfl ?_
      refine u_cvV (As := [iV ((u34.1 271 42) - 1)]) (rb := 271) (st2 := []) (pc := 208) (dec_at lsk_257 (k := 115) rfl) m_12_387 (Or.inl rfl) rfl (Nat.le_of_ble_eq_true rfl) sx_271 me_249 rfl h (fun u36 h => ?_)
      refine u_ld (v := iV ((u34.1 271 42) - 1)) (pc := 211) (dec_at lsk_257 (k := 116) rfl) rfl ?_
      exact u_rI (pc := 213) (dec_at lsk_257 (k := 117) rfl) rfl h
  · have h := ifF e3 h
    refine u_ld (v := .ref 271) (pc := 199) (dec_at lsk_257 (k := 110) rfl) rfl ?_
    refine u_cvI (As := []) (rb := 271) (st2 := []) (pc := 200) (dec_at lsk_257 (k := 111) rfl) m_12_378 (Or.inl rfl) rfl (Nat.le_of_ble_eq_true rfl) sx_271 me_243 rfl ?_ (fun _ _ h_ => h_)
    refine u_of me_243 (Nat.le_of_ble_eq_true rfl) ?_
    refine u_ld (v := .ref 271) (pc := 0) (dec_at lsk_243 (k := 0) rfl) rfl ?_
    refine u_ld (v := .ref 271) (pc := 1) (dec_at lsk_243 (k := 1) rfl) rfl ?_
    refine u_gI (z := 42) (pc := 2) (dec_at lsk_243 (k := 2) rfl) f_12_375 sx_271 rfl rfl ?_
    refine u_ld (v := iV 1) (pc := 5) (dec_at lsk_243 (k := 3) rfl) rfl ?_
    refine u_iadd (pc := 6) (dec_at lsk_243 (k := 4) rfl) ?_
    refine u_pI (z := 42) (pc := 7) (dec_at lsk_243 (k := 5) rfl) f_12_375 sx_271 rfl rfl rfl rfl (fun u37 e38 => ?_)
    have h := h u37 e38
    refine u_ld (v := .ref 271) (pc := 10) (dec_at lsk_243 (k := 6) rfl) rfl ?_
    refine u_gI (z := 42) (pc := 11) (dec_at lsk_243 (k := 7) rfl) f_12_375 sx_271 rfl rfl ?_
    refine u_ld (v := iV 1) (pc := 14) (dec_at lsk_243 (k := 8) rfl) rfl ?_
    refine u_isub (pc := 15) (dec_at lsk_243 (k := 9) rfl) ?_
    refine u_rI (pc := 16) (dec_at lsk_243 (k := 10) rfl) rfl ?_
    refine u_sto (lv' := [.ref 271, iV l1, iV l2, iV l3, iV ((u37.1 271 42) - 1), .retAddr 0, .retAddr 0, .retAddr 0, .retAddr 0, .retAddr 0]) (pc := 203) (dec_at lsk_257 (k := 112) rfl) rfl ?_
    refine u_ld (v := .ref 271) (pc := 205) (dec_at lsk_257 (k := 113) rfl) rfl ?_
    refine u_ld (v := iV ((u37.1 271 42) - 1)) (pc := 206) (dec_at lsk_257 (k := 114) rfl) rfl ?_
    refine u_cvV (As := [iV ((u37.1 271 42) - 1)]) (rb := 271) (st2 := []) (pc := 208) (dec_at lsk_257 (k := 115) rfl) m_12_387 (Or.inl rfl) rfl (Nat.le_of_ble_eq_true rfl) sx_271 me_249 rfl h (fun u39 h => ?_)
    refine u_ld (v := iV ((u37.1 271 42) - 1)) (pc := 211) (dec_at lsk_257 (k := 116) rfl) rfl ?_
    exact u_rI (pc := 213) (dec_at lsk_257 (k := 117) rfl) rfl h
theorem k_257_124 {d : Nat} {Q : Int → uS → Prop} {u : uS} {l1 l2 l3 l4 l5 l6 l9 : Int} (h : (rI l9) ∧ (if l9 < 10 then ((0 ≤ ((400 * l1) + (10 * l5)) + l9) ∧ ((((400 * l1) + (10 * l5)) + l9 < 40000) ∧ ((0 ≤ ((400 * l2) + (10 * l6)) + l9) ∧ ((((400 * l2) + (10 * l6)) + l9 < 40000) ∧ ((rI (u.1 302 (((400 * l2) + (10 * l6)) + l9))) ∧ (cI (d + 1) 246 [.ref 271, iV (u.1 302 (((400 * l1) + (10 * l5)) + l9)), lV (u.1 302 (((400 * l2) + (10 * l6)) + l9))] u (fun r9 u8 => (0 ≤ (10 * l4) + l9) ∧ (((10 * l4) + l9 < 20010) ∧ (∀ u12 : uS, u12 = wr u8 306 ((10 * l4) + l9) r9 → (K_257 (d + 1) 124 [.ref 271, iV l1, iV l2, iV l3, iV l4, iV l5, iV l6, .retAddr 0, .retAddr 0, iV (l9 + 1)] [] u12 Q)))))))))) else (K_257 (d + 1) 14 [.ref 271, iV l1, iV l2, iV l3, iV (l4 + 1), .retAddr 0, .retAddr 0, .retAddr 0, .retAddr 0, .retAddr 0] [] u Q))) : K_257 (d + 1) 124 [.ref 271, iV l1, iV l2, iV l3, iV l4, iV l5, iV l6, .retAddr 0, .retAddr 0, iV l9] [] u Q := by
  unfold K_257
  refine u_ld (v := iV l9) (pc := 124) (dec_at lsk_257 (k := 68) rfl) rfl ?_
  refine u_c (x := 10) (pc := 126) (dec_at lsk_257 (k := 69) rfl) rfl (by decide) ?_
  have g1 := h.1
  have h := h.2
  refine u_icF (pc := 128) (tgt := 193) (dec_at lsk_257 (k := 70) rfl) rfl (ci_ge g1 (by decide)) (fun e2 => ?_) (fun e2 => ?_)
  · have h := ifT e2 h
    refine u_ld (v := .ref 271) (pc := 131) (dec_at lsk_257 (k := 71) rfl) rfl ?_
    refine u_gS (o := 35) (p := 306) (pc := 132) (dec_at lsk_257 (k := 72) rfl) f_12_115 sx_271 rfl rfl ?_
    refine u_c (x := 10) (pc := 135) (dec_at lsk_257 (k := 73) rfl) rfl (by decide) ?_
    refine u_ld (v := iV l4) (pc := 137) (dec_at lsk_257 (k := 74) rfl) rfl ?_
    refine u_imul (pc := 139) (dec_at lsk_257 (k := 75) rfl) ?_
    refine u_ld (v := iV l9) (pc := 140) (dec_at lsk_257 (k := 76) rfl) rfl ?_
    refine u_iadd (pc := 142) (dec_at lsk_257 (k := 77) rfl) ?_
    refine u_ld (v := .ref 271) (pc := 143) (dec_at lsk_257 (k := 78) rfl) rfl ?_
    refine u_ld (v := .ref 271) (pc := 144) (dec_at lsk_257 (k := 79) rfl) rfl ?_
    refine u_gS (o := 31) (p := 302) (pc := 145) (dec_at lsk_257 (k := 80) rfl) f_12_103 sx_271 rfl rfl ?_
    refine u_c (x := 400) (pc := 148) (dec_at lsk_257 (k := 81) rfl) rfl (by decide) ?_
    refine u_ld (v := iV l1) (pc := 151) (dec_at lsk_257 (k := 82) rfl) rfl ?_
    refine u_imul (pc := 152) (dec_at lsk_257 (k := 83) rfl) ?_
    refine u_c (x := 10) (pc := 153) (dec_at lsk_257 (k := 84) rfl) rfl (by decide) ?_
    refine u_ld (v := iV l5) (pc := 155) (dec_at lsk_257 (k := 85) rfl) rfl ?_
    refine u_imul (pc := 157) (dec_at lsk_257 (k := 86) rfl) ?_
    refine u_iadd (pc := 158) (dec_at lsk_257 (k := 87) rfl) ?_
    refine u_ld (v := iV l9) (pc := 159) (dec_at lsk_257 (k := 88) rfl) rfl ?_
    refine u_iadd (pc := 161) (dec_at lsk_257 (k := 89) rfl) ?_
    have g3 := h.1
    have h := h.2
    have g4 := h.1
    have h := h.2
    refine u_iald (pc := 162) (dec_at lsk_257 (k := 90) rfl) sx_302 g3 g4 ?_
    refine u_ld (v := .ref 271) (pc := 163) (dec_at lsk_257 (k := 91) rfl) rfl ?_
    refine u_gS (o := 31) (p := 302) (pc := 164) (dec_at lsk_257 (k := 92) rfl) f_12_103 sx_271 rfl rfl ?_
    refine u_c (x := 400) (pc := 167) (dec_at lsk_257 (k := 93) rfl) rfl (by decide) ?_
    refine u_ld (v := iV l2) (pc := 170) (dec_at lsk_257 (k := 94) rfl) rfl ?_
    refine u_imul (pc := 171) (dec_at lsk_257 (k := 95) rfl) ?_
    refine u_c (x := 10) (pc := 172) (dec_at lsk_257 (k := 96) rfl) rfl (by decide) ?_
    refine u_ld (v := iV l6) (pc := 174) (dec_at lsk_257 (k := 97) rfl) rfl ?_
    refine u_imul (pc := 176) (dec_at lsk_257 (k := 98) rfl) ?_
    refine u_iadd (pc := 177) (dec_at lsk_257 (k := 99) rfl) ?_
    refine u_ld (v := iV l9) (pc := 178) (dec_at lsk_257 (k := 100) rfl) rfl ?_
    refine u_iadd (pc := 180) (dec_at lsk_257 (k := 101) rfl) ?_
    have g5 := h.1
    have h := h.2
    have g6 := h.1
    have h := h.2
    refine u_iald (pc := 181) (dec_at lsk_257 (k := 102) rfl) sx_302 g5 g6 ?_
    have g7 := h.1
    have h := h.2
    refine u_i2l (pc := 182) (dec_at lsk_257 (k := 103) rfl) g7 ?_
    refine u_cvI (As := [iV (u.1 302 (((400 * l1) + (10 * l5)) + l9)), lV (u.1 302 (((400 * l2) + (10 * l6)) + l9))]) (rb := 271) (st2 := [iV ((10 * l4) + l9), .ref 306]) (pc := 183) (dec_at lsk_257 (k := 104) rfl) m_12_397 (Or.inl rfl) rfl (Nat.le_of_ble_eq_true rfl) sx_271 me_246 rfl h (fun r9 u8 h => ?_)
    have g10 := h.1
    have h := h.2
    have g11 := h.1
    have h := h.2
    refine u_iast (pc := 186) (dec_at lsk_257 (k := 105) rfl) sx_306 g10 g11 (fun u12 e13 => ?_)
    have h := h u12 e13
    refine u_inc (lv' := [.ref 271, iV l1, iV l2, iV l3, iV l4, iV l5, iV l6, .retAddr 0, .retAddr 0, iV (l9 + 1)]) (pc := 187) (dec_at lsk_257 (k := 106) rfl) rfl (by decide) rfl ?_
    refine u_goto (pc := 190) (tgt := 124) (dec_at lsk_257 (k := 107) rfl) rfl ?_
    exact h
  · have h := ifF e2 h
    refine u_inc (lv' := [.ref 271, iV l1, iV l2, iV l3, iV (l4 + 1), iV l5, iV l6, .retAddr 0, .retAddr 0, iV l9]) (pc := 193) (dec_at lsk_257 (k := 108) rfl) rfl (by decide) rfl ?_
    refine u_goto (pc := 196) (tgt := 14) (dec_at lsk_257 (k := 109) rfl) rfl ?_
    exact u_weak (sbK (sbK (sbK (sbK (sbK (sbD (sbD (sbK (sbK (sbD sb0)))))))))) h
/-- method 258 -/
def K_258 (d pc : Nat) (lv : ev_L) (st : List Value) (u : uS) (Q : Int → uS → Prop) : Prop := okU d 12 9 false (some .int) prog_14_method_45_code (qI Q) pc lv st u
theorem e_258 {d : Nat} {Q : Int → uS → Prop} {u : uS} {l1 l2 : Int} (h : cV (d + 1) 245 [.ref 271] u (fun u1 => (rI l2) ∧ (if l2 = 0 then (cI (d + 1) 246 [.ref 271, iV 0, lV 1] u1 (fun r5 u4 => K_258 (d + 1) 21 [.ref 271, iV l1, .retAddr 0, iV 0, .retAddr 0, .retAddr 0, .retAddr 0, .retAddr 0, .retAddr 0] [] u4 Q)) else (cI (d + 1) 246 [.ref 271, iV 1, lV 1] u1 (fun r7 u6 => K_258 (d + 1) 21 [.ref 271, iV l1, .retAddr 0, iV 0, .retAddr 0, .retAddr 0, .retAddr 0, .retAddr 0, .retAddr 0] [] u6 Q))))) : cI (d + 2) 258 [.ref 271, iV l1, iV l2] u Q := by
  refine u_of me_258 (Nat.le_of_ble_eq_true rfl) ?_
  refine u_ld (v := .ref 271) (pc := 0) (dec_at lsk_258 (k := 0) rfl) rfl ?_
  refine u_cvV (As := []) (rb := 271) (st2 := []) (pc := 1) (dec_at lsk_258 (k := 1) rfl) m_12_381 (Or.inl rfl) rfl (Nat.le_of_ble_eq_true rfl) sx_271 me_245 rfl h (fun u1 h => ?_)
  refine u_ld (v := .ref 271) (pc := 4) (dec_at lsk_258 (k := 2) rfl) rfl ?_
  refine u_ld (v := iV l2) (pc := 5) (dec_at lsk_258 (k := 3) rfl) rfl ?_
  have g2 := h.1
  have h := h.2
  refine u_ifT (pc := 6) (tgt := 13) (dec_at lsk_258 (k := 4) rfl) rfl (c0_eq g2) (fun e3 => ?_) (fun e3 => ?_)
  · have h := ifT e3 h
    refine u_ld (v := iV 0) (pc := 13) (dec_at lsk_258 (k := 7) rfl) rfl ?_
    refine u_cl (x := 1) (pc := 14) (dec_at lsk_258 (k := 8) rfl) rfl (by decide) ?_
    refine u_cvI (As := [iV 0, lV 1]) (rb := 271) (st2 := []) (pc := 15) (dec_at lsk_258 (k := 9) rfl) m_12_397 (Or.inl rfl) rfl (Nat.le_of_ble_eq_true rfl) sx_271 me_246 rfl h (fun r5 u4 h => ?_)
    refine u_st (st' := []) (pc := 18) (dec_at lsk_258 (k := 10) rfl) rfl ?_
    refine u_ld (v := iV 0) (pc := 19) (dec_at lsk_258 (k := 11) rfl) rfl ?_
    refine u_sto (lv' := [.ref 271, iV l1, iV l2, iV 0, .retAddr 0, .retAddr 0, .retAddr 0, .retAddr 0, .retAddr 0]) (pc := 20) (dec_at lsk_258 (k := 12) rfl) rfl ?_
    exact u_weak (sbK (sbK (sbD (sbK (sbK (sbK (sbK (sbK (sbK sb0))))))))) h
  · have h := ifF e3 h
    refine u_ld (v := iV 1) (pc := 9) (dec_at lsk_258 (k := 5) rfl) rfl ?_
    refine u_goto (pc := 10) (tgt := 14) (dec_at lsk_258 (k := 6) rfl) rfl ?_
    refine u_cl (x := 1) (pc := 14) (dec_at lsk_258 (k := 8) rfl) rfl (by decide) ?_
    refine u_cvI (As := [iV 1, lV 1]) (rb := 271) (st2 := []) (pc := 15) (dec_at lsk_258 (k := 9) rfl) m_12_397 (Or.inl rfl) rfl (Nat.le_of_ble_eq_true rfl) sx_271 me_246 rfl h (fun r7 u6 h => ?_)
    refine u_st (st' := []) (pc := 18) (dec_at lsk_258 (k := 10) rfl) rfl ?_
    refine u_ld (v := iV 0) (pc := 19) (dec_at lsk_258 (k := 11) rfl) rfl ?_
    refine u_sto (lv' := [.ref 271, iV l1, iV l2, iV 0, .retAddr 0, .retAddr 0, .retAddr 0, .retAddr 0, .retAddr 0]) (pc := 20) (dec_at lsk_258 (k := 12) rfl) rfl ?_
    exact u_weak (sbK (sbK (sbD (sbK (sbK (sbK (sbK (sbK (sbK sb0))))))))) h
theorem k_258_21 {d : Nat} {Q : Int → uS → Prop} {u : uS} {l1 l3 : Int} (h : (rI l3) ∧ ((rI (u.1 271 44)) ∧ (if l3 < u.1 271 44 then ((rI (u.1 271 43)) ∧ (if u.1 271 43 = 0 then ((0 ≤ l3) ∧ ((l3 < 2001) ∧ ((rI (u.1 304 l3)) ∧ (if u.1 304 l3 = 1 then (∀ u10 : uS, u10 = wr u 307 l3 1 → (K_258 (d + 1) 78 [.ref 271, iV l1, .retAddr 0, iV l3, lV (u.1 305 l3), .retAddr 0, iV 0, .retAddr 0, .retAddr 0] [] u10 Q)) else (cI (d + 1) 247 [.ref 271, iV l1, lV (u.1 305 l3)] u (fun r13 u12 => (rI r13) ∧ (if r13 = 0 then (∀ u16 : uS, u16 = wr u12 307 l3 0 → (K_258 (d + 1) 78 [.ref 271, iV l1, .retAddr 0, iV l3, lV (u.1 305 l3), .retAddr 0, iV 0, .retAddr 0, .retAddr 0] [] u16 Q)) else (∀ u18 : uS, u18 = wr u12 307 l3 1 → (K_258 (d + 1) 78 [.ref 271, iV l1, .retAddr 0, iV l3, lV (u.1 305 l3), .retAddr 0, iV 0, .retAddr 0, .retAddr 0] [] u18 Q))))))))) else (∀ u20 : uS, u20 = wr u 271 42 ((u.1 271 42) + 1) → (cV (d + 1) 249 [.ref 271, iV ((u20.1 271 42) - 1)] u20 (fun u22 => Q ((u20.1 271 42) - 1) u22))))) else (∀ u23 : uS, u23 = wr u 271 42 ((u.1 271 42) + 1) → (cV (d + 1) 249 [.ref 271, iV ((u23.1 271 42) - 1)] u23 (fun u25 => Q ((u23.1 271 42) - 1) u25)))))) : K_258 (d + 1) 21 [.ref 271, iV l1, .retAddr 0, iV l3, .retAddr 0, .retAddr 0, .retAddr 0, .retAddr 0, .retAddr 0] [] u Q := by
  unfold K_258
  refine u_ld (v := iV l3) (pc := 21) (dec_at lsk_258 (k := 13) rfl) rfl ?_
  refine u_ld (v := .ref 271) (pc := 22) (dec_at lsk_258 (k := 14) rfl) rfl ?_
  refine u_gI (z := 44) (pc := 23) (dec_at lsk_258 (k := 15) rfl) f_12_384 sx_271 rfl rfl ?_
  have g1 := h.1
  have h := h.2
  have g2 := h.1
  have h := h.2
  refine u_icF (pc := 26) (tgt := 143) (dec_at lsk_258 (k := 16) rfl) rfl (ci_ge g1 g2) (fun e3 => ?_) (fun e3 => ?_)
  · have h := ifT e3 h
    refine u_ld (v := .ref 271) (pc := 29) (dec_at lsk_258 (k := 17) rfl) rfl ?_
    refine u_gZ (z := 43) (pc := 30) (dec_at lsk_258 (k := 18) rfl) f_12_394 sx_271 rfl rfl ?_
    have g4 := h.1
    have h := h.2
    refine u_ifF (pc := 33) (tgt := 143) (dec_at lsk_258 (k := 19) rfl) rfl (c0_ne g4) (fun e5 => ?_) (fun e5 => ?_)
    · have h := ifT e5 h
      refine u_ld (v := .ref 271) (pc := 36) (dec_at lsk_258 (k := 20) rfl) rfl ?_
      refine u_gS (o := 34) (p := 305) (pc := 37) (dec_at lsk_258 (k := 21) rfl) f_12_112 sx_271 rfl rfl ?_
      refine u_ld (v := iV l3) (pc := 40) (dec_at lsk_258 (k := 22) rfl) rfl ?_
      have g6 := h.1
      have h := h.2
      have g7 := h.1
      have h := h.2
      refine u_lald (pc := 41) (dec_at lsk_258 (k := 23) rfl) sx_305 g6 g7 ?_
      refine u_sto (lv' := [.ref 271, iV l1, .retAddr 0, iV l3, lV (u.1 305 l3), .retAddr 0, .retAddr 0, .retAddr 0, .retAddr 0]) (pc := 42) (dec_at lsk_258 (k := 24) rfl) rfl ?_
      refine u_ld (v := .ref 271) (pc := 44) (dec_at lsk_258 (k := 25) rfl) rfl ?_
      refine u_gS (o := 36) (p := 307) (pc := 45) (dec_at lsk_258 (k := 26) rfl) f_12_118 sx_271 rfl rfl ?_
      refine u_ld (v := iV l3) (pc := 48) (dec_at lsk_258 (k := 27) rfl) rfl ?_
      refine u_ld (v := .ref 271) (pc := 49) (dec_at lsk_258 (k := 28) rfl) rfl ?_
      refine u_gS (o := 33) (p := 304) (pc := 50) (dec_at lsk_258 (k := 29) rfl) f_12_109 sx_271 rfl rfl ?_
      refine u_ld (v := iV l3) (pc := 53) (dec_at lsk_258 (k := 30) rfl) rfl ?_
      refine u_iald (pc := 54) (dec_at lsk_258 (k := 31) rfl) sx_304 g6 g7 ?_
      refine u_ld (v := iV 1) (pc := 55) (dec_at lsk_258 (k := 32) rfl) rfl ?_
      have g8 := h.1
      have h := h.2
      refine u_icT (pc := 56) (tgt := 69) (dec_at lsk_258 (k := 33) rfl) rfl (ci_eq g8 (by decide)) (fun e9 => ?_) (fun e9 => ?_)
      · have h := ifT e9 h
        refine u_ld (v := iV 1) (pc := 69) (dec_at lsk_258 (k := 39) rfl) rfl ?_
        refine u_goto (pc := 70) (tgt := 74) (dec_at lsk_258 (k := 40) rfl) rfl ?_
        refine u_zast (pc := 74) (dec_at lsk_258 (k := 42) rfl) sx_307 g6 g7 (by decide) (fun u10 e11 => ?_)
        have h := h u10 e11
        refine u_ld (v := iV 0) (pc := 75) (dec_at lsk_258 (k := 43) rfl) rfl ?_
        refine u_sto (lv' := [.ref 271, iV l1, .retAddr 0, iV l3, lV (u.1 305 l3), .retAddr 0, iV 0, .retAddr 0, .retAddr 0]) (pc := 76) (dec_at lsk_258 (k := 44) rfl) rfl ?_
        exact h
      · have h := ifF e9 h
        refine u_ld (v := .ref 271) (pc := 59) (dec_at lsk_258 (k := 34) rfl) rfl ?_
        refine u_ld (v := iV l1) (pc := 60) (dec_at lsk_258 (k := 35) rfl) rfl ?_
        refine u_ld (v := lV (u.1 305 l3)) (pc := 61) (dec_at lsk_258 (k := 36) rfl) rfl ?_
        refine u_cvI (As := [iV l1, lV (u.1 305 l3)]) (rb := 271) (st2 := [iV l3, .ref 307]) (pc := 63) (dec_at lsk_258 (k := 37) rfl) m_12_401 (Or.inl rfl) rfl (Nat.le_of_ble_eq_true rfl) sx_271 me_247 rfl h (fun r13 u12 h => ?_)
        have g14 := h.1
        have h := h.2
        refine u_ifT (pc := 66) (tgt := 73) (dec_at lsk_258 (k := 38) rfl) rfl (c0_eq g14) (fun e15 => ?_) (fun e15 => ?_)
        · have h := ifT e15 h
          refine u_ld (v := iV 0) (pc := 73) (dec_at lsk_258 (k := 41) rfl) rfl ?_
          refine u_zast (pc := 74) (dec_at lsk_258 (k := 42) rfl) sx_307 g6 g7 (by decide) (fun u16 e17 => ?_)
          have h := h u16 e17
          refine u_ld (v := iV 0) (pc := 75) (dec_at lsk_258 (k := 43) rfl) rfl ?_
          refine u_sto (lv' := [.ref 271, iV l1, .retAddr 0, iV l3, lV (u.1 305 l3), .retAddr 0, iV 0, .retAddr 0, .retAddr 0]) (pc := 76) (dec_at lsk_258 (k := 44) rfl) rfl ?_
          exact h
        · have h := ifF e15 h
          refine u_ld (v := iV 1) (pc := 69) (dec_at lsk_258 (k := 39) rfl) rfl ?_
          refine u_goto (pc := 70) (tgt := 74) (dec_at lsk_258 (k := 40) rfl) rfl ?_
          refine u_zast (pc := 74) (dec_at lsk_258 (k := 42) rfl) sx_307 g6 g7 (by decide) (fun u18 e19 => ?_)
          have h := h u18 e19
          refine u_ld (v := iV 0) (pc := 75) (dec_at lsk_258 (k := 43) rfl) rfl ?_
          refine u_sto (lv' := [.ref 271, iV l1, .retAddr 0, iV l3, lV (u.1 305 l3), .retAddr 0, iV 0, .retAddr 0, .retAddr 0]) (pc := 76) (dec_at lsk_258 (k := 44) rfl) rfl ?_
          exact h
    · have h := ifF e5 h
      refine u_ld (v := .ref 271) (pc := 143) (dec_at lsk_258 (k := 79) rfl) rfl ?_
      refine u_cvI (As := []) (rb := 271) (st2 := []) (pc := 144) (dec_at lsk_258 (k := 80) rfl) m_12_378 (Or.inl rfl) rfl (Nat.le_of_ble_eq_true rfl) sx_271 me_243 rfl ?_ (fun _ _ h_ => h_)
      refine u_of me_243 (Nat.le_of_ble_eq_true rfl) ?_
      refine u_ld (v := .ref 271) (pc := 0) (dec_at lsk_243 (k := 0) rfl) rfl ?_
      refine u_ld (v := .ref 271) (pc := 1) (dec_at lsk_243 (k := 1) rfl) rfl ?_
      refine u_gI (z := 42) (pc := 2) (dec_at lsk_243 (k := 2) rfl) f_12_375 sx_271 rfl rfl ?_
      refine u_ld (v := iV 1) (pc := 5) (dec_at lsk_243 (k := 3) rfl) rfl ?_
      refine u_iadd (pc := 6) (dec_at lsk_243 (k := 4) rfl) ?_
      refine u_pI (z := 42) (pc := 7) (dec_at lsk_243 (k := 5) rfl) f_12_375 sx_271 rfl rfl rfl rfl (fun u20 e21 => ?_)
      have h := h u20 e21
      refine u_ld (v := .ref 271) (pc := 10) (dec_at lsk_243 (k := 6) rfl) rfl ?_
      refine u_gI (z := 42) (pc := 11) (dec_at lsk_243 (k := 7) rfl) f_12_375 sx_271 rfl rfl ?_
      refine u_ld (v := iV 1) (pc := 14) (dec_at lsk_243 (k := 8) rfl) rfl ?_
      refine u_isub (pc := 15) (dec_at lsk_243 (k := 9) rfl) ?_
      refine u_rI (pc := 16) (dec_at lsk_243 (k := 10) rfl) rfl ?_
      refine u_sto (lv' := [.ref 271, iV l1, .retAddr 0, iV ((u20.1 271 42) - 1), .retAddr 0, .retAddr 0, .retAddr 0, .retAddr 0, .retAddr 0]) (pc := 147) (dec_at lsk_258 (k := 81) rfl) rfl ?_
      refine u_ld (v := .ref 271) (pc := 148) (dec_at lsk_258 (k := 82) rfl) rfl ?_
      refine u_ld (v := iV ((u20.1 271 42) - 1)) (pc := 149) (dec_at lsk_258 (k := 83) rfl) rfl ?_
      refine u_cvV (As := [iV ((u20.1 271 42) - 1)]) (rb := 271) (st2 := []) (pc := 150) (dec_at lsk_258 (k := 84) rfl) m_12_387 (Or.inl rfl) rfl (Nat.le_of_ble_eq_true rfl) sx_271 me_249 rfl h (fun u22 h => ?_)
      refine u_ld (v := iV ((u20.1 271 42) - 1)) (pc := 153) (dec_at lsk_258 (k := 85) rfl) rfl ?_
      exact u_rI (pc := 154) (dec_at lsk_258 (k := 86) rfl) rfl h
  · have h := ifF e3 h
    refine u_ld (v := .ref 271) (pc := 143) (dec_at lsk_258 (k := 79) rfl) rfl ?_
    refine u_cvI (As := []) (rb := 271) (st2 := []) (pc := 144) (dec_at lsk_258 (k := 80) rfl) m_12_378 (Or.inl rfl) rfl (Nat.le_of_ble_eq_true rfl) sx_271 me_243 rfl ?_ (fun _ _ h_ => h_)
    refine u_of me_243 (Nat.le_of_ble_eq_true rfl) ?_
    refine u_ld (v := .ref 271) (pc := 0) (dec_at lsk_243 (k := 0) rfl) rfl ?_
    refine u_ld (v := .ref 271) (pc := 1) (dec_at lsk_243 (k := 1) rfl) rfl ?_
    refine u_gI (z := 42) (pc := 2) (dec_at lsk_243 (k := 2) rfl) f_12_375 sx_271 rfl rfl ?_
    refine u_ld (v := iV 1) (pc := 5) (dec_at lsk_243 (k := 3) rfl) rfl ?_
    refine u_iadd (pc := 6) (dec_at lsk_243 (k := 4) rfl) ?_
    refine u_pI (z := 42) (pc := 7) (dec_at lsk_243 (k := 5) rfl) f_12_375 sx_271 rfl rfl rfl rfl (fun u23 e24 => ?_)
    have h := h u23 e24
    refine u_ld (v := .ref 271) (pc := 10) (dec_at lsk_243 (k := 6) rfl) rfl ?_
    refine u_gI (z := 42) (pc := 11) (dec_at lsk_243 (k := 7) rfl) f_12_375 sx_271 rfl rfl ?_
    refine u_ld (v := iV 1) (pc := 14) (dec_at lsk_243 (k := 8) rfl) rfl ?_
    refine u_isub (pc := 15) (dec_at lsk_243 (k := 9) rfl) ?_
    refine u_rI (pc := 16) (dec_at lsk_243 (k := 10) rfl) rfl ?_
    refine u_sto (lv' := [.ref 271, iV l1, .retAddr 0, iV ((u23.1 271 42) - 1), .retAddr 0, .retAddr 0, .retAddr 0, .retAddr 0, .retAddr 0]) (pc := 147) (dec_at lsk_258 (k := 81) rfl) rfl ?_
    refine u_ld (v := .ref 271) (pc := 148) (dec_at lsk_258 (k := 82) rfl) rfl ?_
    refine u_ld (v := iV ((u23.1 271 42) - 1)) (pc := 149) (dec_at lsk_258 (k := 83) rfl) rfl ?_
    refine u_cvV (As := [iV ((u23.1 271 42) - 1)]) (rb := 271) (st2 := []) (pc := 150) (dec_at lsk_258 (k := 84) rfl) m_12_387 (Or.inl rfl) rfl (Nat.le_of_ble_eq_true rfl) sx_271 me_249 rfl h (fun u25 h => ?_)
    refine u_ld (v := iV ((u23.1 271 42) - 1)) (pc := 153) (dec_at lsk_258 (k := 85) rfl) rfl ?_
    exact u_rI (pc := 154) (dec_at lsk_258 (k := 86) rfl) rfl h
theorem k_258_78 {d : Nat} {Q : Int → uS → Prop} {u : uS} {l1 l3 l4 l6 : Int} (h : (rI l6) ∧ (if l6 < 10 then (cL (d + 1) 248 [.ref 271, iV l1, lV l4, iV l6] u (fun r4 u3 => cI (d + 1) 247 [.ref 271, iV l1, lV r4] u3 (fun r6 u5 => (rI r6) ∧ (if r6 = 0 then (cI (d + 1) 246 [.ref 271, iV 0, lV (lor r4 0)] u5 (fun r10 u9 => (0 ≤ (10 * l3) + l6) ∧ (((10 * l3) + l6 < 20010) ∧ (∀ u13 : uS, u13 = wr u9 306 ((10 * l3) + l6) r10 → (K_258 (d + 1) 78 [.ref 271, iV l1, .retAddr 0, iV l3, lV l4, .retAddr 0, iV (l6 + 1), .retAddr 0, .retAddr 0] [] u13 Q))))) else (cI (d + 1) 246 [.ref 271, iV 0, lV (lor r4 1)] u5 (fun r16 u15 => (0 ≤ (10 * l3) + l6) ∧ (((10 * l3) + l6 < 20010) ∧ (∀ u19 : uS, u19 = wr u15 306 ((10 * l3) + l6) r16 → (K_258 (d + 1) 78 [.ref 271, iV l1, .retAddr 0, iV l3, lV l4, .retAddr 0, iV (l6 + 1), .retAddr 0, .retAddr 0] [] u19 Q))))))))) else (K_258 (d + 1) 21 [.ref 271, iV l1, .retAddr 0, iV (l3 + 1), .retAddr 0, .retAddr 0, .retAddr 0, .retAddr 0, .retAddr 0] [] u Q))) : K_258 (d + 1) 78 [.ref 271, iV l1, .retAddr 0, iV l3, lV l4, .retAddr 0, iV l6, .retAddr 0, .retAddr 0] [] u Q := by
  unfold K_258
  refine u_ld (v := iV l6) (pc := 78) (dec_at lsk_258 (k := 45) rfl) rfl ?_
  refine u_c (x := 10) (pc := 80) (dec_at lsk_258 (k := 46) rfl) rfl (by decide) ?_
  have g1 := h.1
  have h := h.2
  refine u_icF (pc := 82) (tgt := 137) (dec_at lsk_258 (k := 47) rfl) rfl (ci_ge g1 (by decide)) (fun e2 => ?_) (fun e2 => ?_)
  · have h := ifT e2 h
    refine u_ld (v := .ref 271) (pc := 85) (dec_at lsk_258 (k := 48) rfl) rfl ?_
    refine u_ld (v := iV l1) (pc := 86) (dec_at lsk_258 (k := 49) rfl) rfl ?_
    refine u_ld (v := lV l4) (pc := 87) (dec_at lsk_258 (k := 50) rfl) rfl ?_
    refine u_ld (v := iV l6) (pc := 89) (dec_at lsk_258 (k := 51) rfl) rfl ?_
    refine u_cvL (As := [iV l1, lV l4, iV l6]) (rb := 271) (st2 := []) (pc := 91) (dec_at lsk_258 (k := 52) rfl) m_12_405 (Or.inl rfl) rfl (Nat.le_of_ble_eq_true rfl) sx_271 me_248 rfl h (fun r4 u3 h => ?_)
    refine u_sto (lv' := [.ref 271, iV l1, .retAddr 0, iV l3, lV l4, .retAddr 0, iV l6, lV r4, .retAddr 0]) (pc := 94) (dec_at lsk_258 (k := 53) rfl) rfl ?_
    refine u_ld (v := .ref 271) (pc := 96) (dec_at lsk_258 (k := 54) rfl) rfl ?_
    refine u_gS (o := 35) (p := 306) (pc := 97) (dec_at lsk_258 (k := 55) rfl) f_12_115 sx_271 rfl rfl ?_
    refine u_c (x := 10) (pc := 100) (dec_at lsk_258 (k := 56) rfl) rfl (by decide) ?_
    refine u_ld (v := iV l3) (pc := 102) (dec_at lsk_258 (k := 57) rfl) rfl ?_
    refine u_imul (pc := 103) (dec_at lsk_258 (k := 58) rfl) ?_
    refine u_ld (v := iV l6) (pc := 104) (dec_at lsk_258 (k := 59) rfl) rfl ?_
    refine u_iadd (pc := 106) (dec_at lsk_258 (k := 60) rfl) ?_
    refine u_ld (v := .ref 271) (pc := 107) (dec_at lsk_258 (k := 61) rfl) rfl ?_
    refine u_ld (v := iV 0) (pc := 108) (dec_at lsk_258 (k := 62) rfl) rfl ?_
    refine u_ld (v := lV r4) (pc := 109) (dec_at lsk_258 (k := 63) rfl) rfl ?_
    refine u_ld (v := .ref 271) (pc := 111) (dec_at lsk_258 (k := 64) rfl) rfl ?_
    refine u_ld (v := iV l1) (pc := 112) (dec_at lsk_258 (k := 65) rfl) rfl ?_
    refine u_ld (v := lV r4) (pc := 113) (dec_at lsk_258 (k := 66) rfl) rfl ?_
    refine u_cvI (As := [iV l1, lV r4]) (rb := 271) (st2 := [lV r4, iV 0, .ref 271, iV ((10 * l3) + l6), .ref 306]) (pc := 115) (dec_at lsk_258 (k := 67) rfl) m_12_401 (Or.inl rfl) rfl (Nat.le_of_ble_eq_true rfl) sx_271 me_247 rfl h (fun r6 u5 h => ?_)
    have g7 := h.1
    have h := h.2
    refine u_ifT (pc := 118) (tgt := 125) (dec_at lsk_258 (k := 68) rfl) rfl (c0_eq g7) (fun e8 => ?_) (fun e8 => ?_)
    · have h := ifT e8 h
      refine u_cl (x := 0) (pc := 125) (dec_at lsk_258 (k := 71) rfl) rfl (by decide) ?_
      refine u_lor (pc := 126) (dec_at lsk_258 (k := 72) rfl) ?_
      refine u_cvI (As := [iV 0, lV (lor r4 0)]) (rb := 271) (st2 := [iV ((10 * l3) + l6), .ref 306]) (pc := 127) (dec_at lsk_258 (k := 73) rfl) m_12_397 (Or.inl rfl) rfl (Nat.le_of_ble_eq_true rfl) sx_271 me_246 rfl h (fun r10 u9 h => ?_)
      have g11 := h.1
      have h := h.2
      have g12 := h.1
      have h := h.2
      refine u_iast (pc := 130) (dec_at lsk_258 (k := 74) rfl) sx_306 g11 g12 (fun u13 e14 => ?_)
      have h := h u13 e14
      refine u_inc (lv' := [.ref 271, iV l1, .retAddr 0, iV l3, lV l4, .retAddr 0, iV (l6 + 1), lV r4, .retAddr 0]) (pc := 131) (dec_at lsk_258 (k := 75) rfl) rfl (by decide) rfl ?_
      refine u_goto (pc := 134) (tgt := 78) (dec_at lsk_258 (k := 76) rfl) rfl ?_
      exact u_weak (sbK (sbK (sbK (sbK (sbK (sbK (sbK (sbD (sbK sb0))))))))) h
    · have h := ifF e8 h
      refine u_cl (x := 1) (pc := 121) (dec_at lsk_258 (k := 69) rfl) rfl (by decide) ?_
      refine u_goto (pc := 122) (tgt := 126) (dec_at lsk_258 (k := 70) rfl) rfl ?_
      refine u_lor (pc := 126) (dec_at lsk_258 (k := 72) rfl) ?_
      refine u_cvI (As := [iV 0, lV (lor r4 1)]) (rb := 271) (st2 := [iV ((10 * l3) + l6), .ref 306]) (pc := 127) (dec_at lsk_258 (k := 73) rfl) m_12_397 (Or.inl rfl) rfl (Nat.le_of_ble_eq_true rfl) sx_271 me_246 rfl h (fun r16 u15 h => ?_)
      have g17 := h.1
      have h := h.2
      have g18 := h.1
      have h := h.2
      refine u_iast (pc := 130) (dec_at lsk_258 (k := 74) rfl) sx_306 g17 g18 (fun u19 e20 => ?_)
      have h := h u19 e20
      refine u_inc (lv' := [.ref 271, iV l1, .retAddr 0, iV l3, lV l4, .retAddr 0, iV (l6 + 1), lV r4, .retAddr 0]) (pc := 131) (dec_at lsk_258 (k := 75) rfl) rfl (by decide) rfl ?_
      refine u_goto (pc := 134) (tgt := 78) (dec_at lsk_258 (k := 76) rfl) rfl ?_
      exact u_weak (sbK (sbK (sbK (sbK (sbK (sbK (sbK (sbD (sbK sb0))))))))) h
  · have h := ifF e2 h
    refine u_inc (lv' := [.ref 271, iV l1, .retAddr 0, iV (l3 + 1), lV l4, .retAddr 0, iV l6, .retAddr 0, .retAddr 0]) (pc := 137) (dec_at lsk_258 (k := 77) rfl) rfl (by decide) rfl ?_
    refine u_goto (pc := 140) (tgt := 21) (dec_at lsk_258 (k := 78) rfl) rfl ?_
    exact u_weak (sbK (sbK (sbK (sbK (sbD (sbK (sbD (sbK (sbK sb0))))))))) h
/-- method 259 -/
def K_259 (d pc : Nat) (lv : ev_L) (st : List Value) (u : uS) (Q : uS → Prop) : Prop := okU d 12 3 false none prog_14_method_62_code (qV Q) pc lv st u
theorem e_259 {d : Nat} {Q : uS → Prop} {u : uS} (h : (rI (u.1 271 42)) ∧ (if u.1 271 42 < 80 then (Q u) else ((rI (u.1 271 43)) ∧ (if u.1 271 43 = 0 then (K_259 (d + 1) 19 [.ref 271, iV 0, .retAddr 0] [] u Q) else (Q u))))) : cV (d + 2) 259 [.ref 271] u Q := by
  refine u_of me_259 (Nat.le_of_ble_eq_true rfl) ?_
  refine u_ld (v := .ref 271) (pc := 0) (dec_at lsk_259 (k := 0) rfl) rfl ?_
  refine u_gI (z := 42) (pc := 1) (dec_at lsk_259 (k := 1) rfl) f_12_375 sx_271 rfl rfl ?_
  refine u_c (x := 80) (pc := 4) (dec_at lsk_259 (k := 2) rfl) rfl (by decide) ?_
  have g1 := h.1
  have h := h.2
  refine u_icT (pc := 6) (tgt := 16) (dec_at lsk_259 (k := 3) rfl) rfl (ci_lt g1 (by decide)) (fun e2 => ?_) (fun e2 => ?_)
  · have h := ifT e2 h
    exact u_rV (pc := 16) (dec_at lsk_259 (k := 7) rfl) rfl h
  · have h := ifF e2 h
    refine u_ld (v := .ref 271) (pc := 9) (dec_at lsk_259 (k := 4) rfl) rfl ?_
    refine u_gZ (z := 43) (pc := 10) (dec_at lsk_259 (k := 5) rfl) f_12_394 sx_271 rfl rfl ?_
    have g3 := h.1
    have h := h.2
    refine u_ifT (pc := 13) (tgt := 17) (dec_at lsk_259 (k := 6) rfl) rfl (c0_eq g3) (fun e4 => ?_) (fun e4 => ?_)
    · have h := ifT e4 h
      refine u_ld (v := iV 0) (pc := 17) (dec_at lsk_259 (k := 8) rfl) rfl ?_
      refine u_sto (lv' := [.ref 271, iV 0, .retAddr 0]) (pc := 18) (dec_at lsk_259 (k := 9) rfl) rfl ?_
      exact h
    · have h := ifF e4 h
      exact u_rV (pc := 16) (dec_at lsk_259 (k := 7) rfl) rfl h
theorem k_259_19 {d : Nat} {Q : uS → Prop} {u : uS} {l1 : Int} (h : (rI l1) ∧ (if l1 < 100 then ((0 ≤ l1) ∧ (∀ u4 : uS, u4 = wr u 320 l1 (-2) → (K_259 (d + 1) 19 [.ref 271, iV (l1 + 1), .retAddr 0] [] u4 Q))) else (K_259 (d + 1) 41 [.ref 271, iV 0, .retAddr 0] [] u Q))) : K_259 (d + 1) 19 [.ref 271, iV l1, .retAddr 0] [] u Q := by
  unfold K_259
  refine u_ld (v := iV l1) (pc := 19) (dec_at lsk_259 (k := 10) rfl) rfl ?_
  refine u_c (x := 100) (pc := 20) (dec_at lsk_259 (k := 11) rfl) rfl (by decide) ?_
  have g1 := h.1
  have h := h.2
  refine u_icF (pc := 22) (tgt := 39) (dec_at lsk_259 (k := 12) rfl) rfl (ci_ge g1 (by decide)) (fun e2 => ?_) (fun e2 => ?_)
  · have h := ifT e2 h
    refine u_ld (v := .ref 271) (pc := 25) (dec_at lsk_259 (k := 13) rfl) rfl ?_
    refine u_gS (o := 49) (p := 320) (pc := 26) (dec_at lsk_259 (k := 14) rfl) f_12_157 sx_271 rfl rfl ?_
    refine u_ld (v := iV l1) (pc := 29) (dec_at lsk_259 (k := 15) rfl) rfl ?_
    refine u_c (x := (-2)) (pc := 30) (dec_at lsk_259 (k := 16) rfl) rfl (by decide) ?_
    have g3 := h.1
    have h := h.2
    refine u_iast (pc := 32) (dec_at lsk_259 (k := 17) rfl) sx_320 g3 e2 (fun u4 e5 => ?_)
    have h := h u4 e5
    refine u_inc (lv' := [.ref 271, iV (l1 + 1), .retAddr 0]) (pc := 33) (dec_at lsk_259 (k := 18) rfl) rfl (by decide) rfl ?_
    refine u_goto (pc := 36) (tgt := 19) (dec_at lsk_259 (k := 19) rfl) rfl ?_
    exact h
  · have h := ifF e2 h
    refine u_ld (v := iV 0) (pc := 39) (dec_at lsk_259 (k := 20) rfl) rfl ?_
    refine u_sto (lv' := [.ref 271, iV 0, .retAddr 0]) (pc := 40) (dec_at lsk_259 (k := 21) rfl) rfl ?_
    exact h
theorem k_259_41 {d : Nat} {Q : uS → Prop} {u : uS} {l1 : Int} (h : (rI l1) ∧ ((rI (u.1 271 61)) ∧ (if l1 < u.1 271 61 then ((0 ≤ l1) ∧ ((l1 < 17) ∧ ((rI (u.1 314 l1)) ∧ (if u.1 314 l1 = (-2) then ((rI (u.1 315 l1)) ∧ (if u.1 315 l1 = (-2) then ((rI (u.1 316 l1)) ∧ (if u.1 316 l1 = (-2) then ((rI (u.1 317 l1)) ∧ (if u.1 317 l1 = (-2) then (K_259 (d + 1) 41 [.ref 271, iV (l1 + 1), .retAddr 0] [] u Q) else ((0 ≤ u.1 317 l1) ∧ ((u.1 317 l1 < 100) ∧ (∀ u16 : uS, u16 = wr u 320 (u.1 317 l1) 0 → (K_259 (d + 1) 41 [.ref 271, iV (l1 + 1), .retAddr 0] [] u16 Q)))))) else ((0 ≤ u.1 316 l1) ∧ ((u.1 316 l1 < 100) ∧ (∀ u20 : uS, u20 = wr u 320 (u.1 316 l1) 0 → ((rI (u20.1 317 l1)) ∧ (if u20.1 317 l1 = (-2) then (K_259 (d + 1) 41 [.ref 271, iV (l1 + 1), .retAddr 0] [] u20 Q) else ((0 ≤ u20.1 317 l1) ∧ ((u20.1 317 l1 < 100) ∧ (∀ u26 : uS, u26 = wr u20 320 (u20.1 317 l1) 0 → (K_259 (d + 1) 41 [.ref 271, iV (l1 + 1), .retAddr 0] [] u26 Q))))))))))) else ((0 ≤ u.1 315 l1) ∧ ((u.1 315 l1 < 100) ∧ (∀ u30 : uS, u30 = wr u 320 (u.1 315 l1) 0 → ((rI (u30.1 316 l1)) ∧ (if u30.1 316 l1 = (-2) then ((rI (u30.1 317 l1)) ∧ (if u30.1 317 l1 = (-2) then (K_259 (d + 1) 41 [.ref 271, iV (l1 + 1), .retAddr 0] [] u30 Q) else ((0 ≤ u30.1 317 l1) ∧ ((u30.1 317 l1 < 100) ∧ (∀ u38 : uS, u38 = wr u30 320 (u30.1 317 l1) 0 → (K_259 (d + 1) 41 [.ref 271, iV (l1 + 1), .retAddr 0] [] u38 Q)))))) else ((0 ≤ u30.1 316 l1) ∧ ((u30.1 316 l1 < 100) ∧ (∀ u42 : uS, u42 = wr u30 320 (u30.1 316 l1) 0 → ((rI (u42.1 317 l1)) ∧ (if u42.1 317 l1 = (-2) then (K_259 (d + 1) 41 [.ref 271, iV (l1 + 1), .retAddr 0] [] u42 Q) else ((0 ≤ u42.1 317 l1) ∧ ((u42.1 317 l1 < 100) ∧ (∀ u48 : uS, u48 = wr u42 320 (u42.1 317 l1) 0 → (K_259 (d + 1) 41 [.ref 271, iV (l1 + 1), .retAddr 0] [] u48 Q)))))))))))))))) else ((0 ≤ u.1 314 l1) ∧ ((u.1 314 l1 < 100) ∧ (∀ u52 : uS, u52 = wr u 320 (u.1 314 l1) 0 → ((rI (u52.1 315 l1)) ∧ (if u52.1 315 l1 = (-2) then ((rI (u52.1 316 l1)) ∧ (if u52.1 316 l1 = (-2) then ((rI (u52.1 317 l1)) ∧ (if u52.1 317 l1 = (-2) then (K_259 (d + 1) 41 [.ref 271, iV (l1 + 1), .retAddr 0] [] u52 Q) else ((0 ≤ u52.1 317 l1) ∧ ((u52.1 317 l1 < 100) ∧ (∀ u62 : uS, u62 = wr u52 320 (u52.1 317 l1) 0 → (K_259 (d + 1) 41 [.ref 271, iV (l1 + 1), .retAddr 0] [] u62 Q)))))) else ((0 ≤ u52.1 316 l1) ∧ ((u52.1 316 l1 < 100) ∧ (∀ u66 : uS, u66 = wr u52 320 (u52.1 316 l1) 0 → ((rI (u66.1 317 l1)) ∧ (if u66.1 317 l1 = (-2) then (K_259 (d + 1) 41 [.ref 271, iV (l1 + 1), .retAddr 0] [] u66 Q) else ((0 ≤ u66.1 317 l1) ∧ ((u66.1 317 l1 < 100) ∧ (∀ u72 : uS, u72 = wr u66 320 (u66.1 317 l1) 0 → (K_259 (d + 1) 41 [.ref 271, iV (l1 + 1), .retAddr 0] [] u72 Q))))))))))) else ((0 ≤ u52.1 315 l1) ∧ ((u52.1 315 l1 < 100) ∧ (∀ u76 : uS, u76 = wr u52 320 (u52.1 315 l1) 0 → ((rI (u76.1 316 l1)) ∧ (if u76.1 316 l1 = (-2) then ((rI (u76.1 317 l1)) ∧ (if u76.1 317 l1 = (-2) then (K_259 (d + 1) 41 [.ref 271, iV (l1 + 1), .retAddr 0] [] u76 Q) else ((0 ≤ u76.1 317 l1) ∧ ((u76.1 317 l1 < 100) ∧ (∀ u84 : uS, u84 = wr u76 320 (u76.1 317 l1) 0 → (K_259 (d + 1) 41 [.ref 271, iV (l1 + 1), .retAddr 0] [] u84 Q)))))) else ((0 ≤ u76.1 316 l1) ∧ ((u76.1 316 l1 < 100) ∧ (∀ u88 : uS, u88 = wr u76 320 (u76.1 316 l1) 0 → ((rI (u88.1 317 l1)) ∧ (if u88.1 317 l1 = (-2) then (K_259 (d + 1) 41 [.ref 271, iV (l1 + 1), .retAddr 0] [] u88 Q) else ((0 ≤ u88.1 317 l1) ∧ ((u88.1 317 l1 < 100) ∧ (∀ u94 : uS, u94 = wr u88 320 (u88.1 317 l1) 0 → (K_259 (d + 1) 41 [.ref 271, iV (l1 + 1), .retAddr 0] [] u94 Q))))))))))))))))))))))) else (K_259 (d + 1) 99 [.ref 271, iV 2, iV 2] [] u Q)))) : K_259 (d + 1) 41 [.ref 271, iV l1, .retAddr 0] [] u Q := by
  unfold K_259
  refine u_ld (v := iV l1) (pc := 41) (dec_at lsk_259 (k := 22) rfl) rfl ?_
  refine u_ld (v := .ref 271) (pc := 42) (dec_at lsk_259 (k := 23) rfl) rfl ?_
  refine u_gI (z := 61) (pc := 43) (dec_at lsk_259 (k := 24) rfl) f_12_425 sx_271 rfl rfl ?_
  have g1 := h.1
  have h := h.2
  have g2 := h.1
  have h := h.2
  refine u_icF (pc := 46) (tgt := 95) (dec_at lsk_259 (k := 25) rfl) rfl (ci_ge g1 g2) (fun e3 => ?_) (fun e3 => ?_)
  · have h := ifT e3 h
    refine u_ld (v := .ref 271) (pc := 49) (dec_at lsk_259 (k := 26) rfl) rfl ?_
    refine u_ld (v := .ref 271) (pc := 50) (dec_at lsk_259 (k := 27) rfl) rfl ?_
    refine u_gS (o := 43) (p := 314) (pc := 51) (dec_at lsk_259 (k := 28) rfl) f_12_139 sx_271 rfl rfl ?_
    refine u_ld (v := iV l1) (pc := 54) (dec_at lsk_259 (k := 29) rfl) rfl ?_
    have g4 := h.1
    have h := h.2
    have g5 := h.1
    have h := h.2
    refine u_iald (pc := 55) (dec_at lsk_259 (k := 30) rfl) sx_314 g4 g5 ?_
    refine u_cvV (As := [iV (u.1 314 l1)]) (rb := 271) (st2 := []) (pc := 56) (dec_at lsk_259 (k := 31) rfl) m_12_473 (Or.inl rfl) rfl (Nat.le_of_ble_eq_true rfl) sx_271 me_260 rfl ?_ (fun _ h_ => h_)
    refine u_of me_260 (Nat.le_of_ble_eq_true rfl) ?_
    refine u_ld (v := iV (u.1 314 l1)) (pc := 0) (dec_at lsk_260 (k := 0) rfl) rfl ?_
    refine u_c (x := (-2)) (pc := 1) (dec_at lsk_260 (k := 1) rfl) rfl (by decide) ?_
    have g6 := h.1
    have h := h.2
    refine u_icT (pc := 3) (tgt := 13) (dec_at lsk_260 (k := 2) rfl) rfl (ci_eq g6 (by decide)) (fun e7 => ?_) (fun e7 => ?_)
    · have h := ifT e7 h
      refine u_rV (pc := 13) (dec_at lsk_260 (k := 8) rfl) rfl ?_
      refine u_ld (v := .ref 271) (pc := 59) (dec_at lsk_259 (k := 32) rfl) rfl ?_
      refine u_ld (v := .ref 271) (pc := 60) (dec_at lsk_259 (k := 33) rfl) rfl ?_
      refine u_gS (o := 44) (p := 315) (pc := 61) (dec_at lsk_259 (k := 34) rfl) f_12_142 sx_271 rfl rfl ?_
      refine u_ld (v := iV l1) (pc := 64) (dec_at lsk_259 (k := 35) rfl) rfl ?_
      refine u_iald (pc := 65) (dec_at lsk_259 (k := 36) rfl) sx_315 g4 g5 ?_
      refine u_cvV (As := [iV (u.1 315 l1)]) (rb := 271) (st2 := []) (pc := 66) (dec_at lsk_259 (k := 37) rfl) m_12_473 (Or.inl rfl) rfl (Nat.le_of_ble_eq_true rfl) sx_271 me_260 rfl ?_ (fun _ h_ => h_)
      refine u_of me_260 (Nat.le_of_ble_eq_true rfl) ?_
      refine u_ld (v := iV (u.1 315 l1)) (pc := 0) (dec_at lsk_260 (k := 0) rfl) rfl ?_
      refine u_c (x := (-2)) (pc := 1) (dec_at lsk_260 (k := 1) rfl) rfl (by decide) ?_
      have g8 := h.1
      have h := h.2
      refine u_icT (pc := 3) (tgt := 13) (dec_at lsk_260 (k := 2) rfl) rfl (ci_eq g8 (by decide)) (fun e9 => ?_) (fun e9 => ?_)
      · have h := ifT e9 h
        refine u_rV (pc := 13) (dec_at lsk_260 (k := 8) rfl) rfl ?_
        refine u_ld (v := .ref 271) (pc := 69) (dec_at lsk_259 (k := 38) rfl) rfl ?_
        refine u_ld (v := .ref 271) (pc := 70) (dec_at lsk_259 (k := 39) rfl) rfl ?_
        refine u_gS (o := 45) (p := 316) (pc := 71) (dec_at lsk_259 (k := 40) rfl) f_12_145 sx_271 rfl rfl ?_
        refine u_ld (v := iV l1) (pc := 74) (dec_at lsk_259 (k := 41) rfl) rfl ?_
        refine u_iald (pc := 75) (dec_at lsk_259 (k := 42) rfl) sx_316 g4 g5 ?_
        refine u_cvV (As := [iV (u.1 316 l1)]) (rb := 271) (st2 := []) (pc := 76) (dec_at lsk_259 (k := 43) rfl) m_12_473 (Or.inl rfl) rfl (Nat.le_of_ble_eq_true rfl) sx_271 me_260 rfl ?_ (fun _ h_ => h_)
        refine u_of me_260 (Nat.le_of_ble_eq_true rfl) ?_
        refine u_ld (v := iV (u.1 316 l1)) (pc := 0) (dec_at lsk_260 (k := 0) rfl) rfl ?_
        refine u_c (x := (-2)) (pc := 1) (dec_at lsk_260 (k := 1) rfl) rfl (by decide) ?_
        have g10 := h.1
        have h := h.2
        refine u_icT (pc := 3) (tgt := 13) (dec_at lsk_260 (k := 2) rfl) rfl (ci_eq g10 (by decide)) (fun e11 => ?_) (fun e11 => ?_)
        · have h := ifT e11 h
          refine u_rV (pc := 13) (dec_at lsk_260 (k := 8) rfl) rfl ?_
          refine u_ld (v := .ref 271) (pc := 79) (dec_at lsk_259 (k := 44) rfl) rfl ?_
          refine u_ld (v := .ref 271) (pc := 80) (dec_at lsk_259 (k := 45) rfl) rfl ?_
          refine u_gS (o := 46) (p := 317) (pc := 81) (dec_at lsk_259 (k := 46) rfl) f_12_148 sx_271 rfl rfl ?_
          refine u_ld (v := iV l1) (pc := 84) (dec_at lsk_259 (k := 47) rfl) rfl ?_
          refine u_iald (pc := 85) (dec_at lsk_259 (k := 48) rfl) sx_317 g4 g5 ?_
          refine u_cvV (As := [iV (u.1 317 l1)]) (rb := 271) (st2 := []) (pc := 86) (dec_at lsk_259 (k := 49) rfl) m_12_473 (Or.inl rfl) rfl (Nat.le_of_ble_eq_true rfl) sx_271 me_260 rfl ?_ (fun _ h_ => h_)
          refine u_of me_260 (Nat.le_of_ble_eq_true rfl) ?_
          refine u_ld (v := iV (u.1 317 l1)) (pc := 0) (dec_at lsk_260 (k := 0) rfl) rfl ?_
          refine u_c (x := (-2)) (pc := 1) (dec_at lsk_260 (k := 1) rfl) rfl (by decide) ?_
          have g12 := h.1
          have h := h.2
          refine u_icT (pc := 3) (tgt := 13) (dec_at lsk_260 (k := 2) rfl) rfl (ci_eq g12 (by decide)) (fun e13 => ?_) (fun e13 => ?_)
          · have h := ifT e13 h
            refine u_rV (pc := 13) (dec_at lsk_260 (k := 8) rfl) rfl ?_
            refine u_inc (lv' := [.ref 271, iV (l1 + 1), .retAddr 0]) (pc := 89) (dec_at lsk_259 (k := 50) rfl) rfl (by decide) rfl ?_
            refine u_goto (pc := 92) (tgt := 41) (dec_at lsk_259 (k := 51) rfl) rfl ?_
            exact h
          · have h := ifF e13 h
            refine u_ld (v := .ref 271) (pc := 6) (dec_at lsk_260 (k := 3) rfl) rfl ?_
            refine u_gS (o := 49) (p := 320) (pc := 7) (dec_at lsk_260 (k := 4) rfl) f_12_157 sx_271 rfl rfl ?_
            refine u_ld (v := iV (u.1 317 l1)) (pc := 10) (dec_at lsk_260 (k := 5) rfl) rfl ?_
            refine u_ld (v := iV 0) (pc := 11) (dec_at lsk_260 (k := 6) rfl) rfl ?_
            have g14 := h.1
            have h := h.2
            have g15 := h.1
            have h := h.2
            refine u_iast (pc := 12) (dec_at lsk_260 (k := 7) rfl) sx_320 g14 g15 (fun u16 e17 => ?_)
            have h := h u16 e17
            refine u_rV (pc := 13) (dec_at lsk_260 (k := 8) rfl) rfl ?_
            refine u_inc (lv' := [.ref 271, iV (l1 + 1), .retAddr 0]) (pc := 89) (dec_at lsk_259 (k := 50) rfl) rfl (by decide) rfl ?_
            refine u_goto (pc := 92) (tgt := 41) (dec_at lsk_259 (k := 51) rfl) rfl ?_
            exact h
        · have h := ifF e11 h
          refine u_ld (v := .ref 271) (pc := 6) (dec_at lsk_260 (k := 3) rfl) rfl ?_
          refine u_gS (o := 49) (p := 320) (pc := 7) (dec_at lsk_260 (k := 4) rfl) f_12_157 sx_271 rfl rfl ?_
          refine u_ld (v := iV (u.1 316 l1)) (pc := 10) (dec_at lsk_260 (k := 5) rfl) rfl ?_
          refine u_ld (v := iV 0) (pc := 11) (dec_at lsk_260 (k := 6) rfl) rfl ?_
          have g18 := h.1
          have h := h.2
          have g19 := h.1
          have h := h.2
          refine u_iast (pc := 12) (dec_at lsk_260 (k := 7) rfl) sx_320 g18 g19 (fun u20 e21 => ?_)
          have h := h u20 e21
          refine u_rV (pc := 13) (dec_at lsk_260 (k := 8) rfl) rfl ?_
          refine u_ld (v := .ref 271) (pc := 79) (dec_at lsk_259 (k := 44) rfl) rfl ?_
          refine u_ld (v := .ref 271) (pc := 80) (dec_at lsk_259 (k := 45) rfl) rfl ?_
          refine u_gS (o := 46) (p := 317) (pc := 81) (dec_at lsk_259 (k := 46) rfl) f_12_148 sx_271 rfl rfl ?_
          refine u_ld (v := iV l1) (pc := 84) (dec_at lsk_259 (k := 47) rfl) rfl ?_
          refine u_iald (pc := 85) (dec_at lsk_259 (k := 48) rfl) sx_317 g4 g5 ?_
          refine u_cvV (As := [iV (u20.1 317 l1)]) (rb := 271) (st2 := []) (pc := 86) (dec_at lsk_259 (k := 49) rfl) m_12_473 (Or.inl rfl) rfl (Nat.le_of_ble_eq_true rfl) sx_271 me_260 rfl ?_ (fun _ h_ => h_)
          refine u_of me_260 (Nat.le_of_ble_eq_true rfl) ?_
          refine u_ld (v := iV (u20.1 317 l1)) (pc := 0) (dec_at lsk_260 (k := 0) rfl) rfl ?_
          refine u_c (x := (-2)) (pc := 1) (dec_at lsk_260 (k := 1) rfl) rfl (by decide) ?_
          have g22 := h.1
          have h := h.2
          refine u_icT (pc := 3) (tgt := 13) (dec_at lsk_260 (k := 2) rfl) rfl (ci_eq g22 (by decide)) (fun e23 => ?_) (fun e23 => ?_)
          · have h := ifT e23 h
            refine u_rV (pc := 13) (dec_at lsk_260 (k := 8) rfl) rfl ?_
            refine u_inc (lv' := [.ref 271, iV (l1 + 1), .retAddr 0]) (pc := 89) (dec_at lsk_259 (k := 50) rfl) rfl (by decide) rfl ?_
            refine u_goto (pc := 92) (tgt := 41) (dec_at lsk_259 (k := 51) rfl) rfl ?_
            exact h
          · have h := ifF e23 h
            refine u_ld (v := .ref 271) (pc := 6) (dec_at lsk_260 (k := 3) rfl) rfl ?_
            refine u_gS (o := 49) (p := 320) (pc := 7) (dec_at lsk_260 (k := 4) rfl) f_12_157 sx_271 rfl rfl ?_
            refine u_ld (v := iV (u20.1 317 l1)) (pc := 10) (dec_at lsk_260 (k := 5) rfl) rfl ?_
            refine u_ld (v := iV 0) (pc := 11) (dec_at lsk_260 (k := 6) rfl) rfl ?_
            have g24 := h.1
            have h := h.2
            have g25 := h.1
            have h := h.2
            refine u_iast (pc := 12) (dec_at lsk_260 (k := 7) rfl) sx_320 g24 g25 (fun u26 e27 => ?_)
            have h := h u26 e27
            refine u_rV (pc := 13) (dec_at lsk_260 (k := 8) rfl) rfl ?_
            refine u_inc (lv' := [.ref 271, iV (l1 + 1), .retAddr 0]) (pc := 89) (dec_at lsk_259 (k := 50) rfl) rfl (by decide) rfl ?_
            refine u_goto (pc := 92) (tgt := 41) (dec_at lsk_259 (k := 51) rfl) rfl ?_
            exact h
      · have h := ifF e9 h
        refine u_ld (v := .ref 271) (pc := 6) (dec_at lsk_260 (k := 3) rfl) rfl ?_
        refine u_gS (o := 49) (p := 320) (pc := 7) (dec_at lsk_260 (k := 4) rfl) f_12_157 sx_271 rfl rfl ?_
        refine u_ld (v := iV (u.1 315 l1)) (pc := 10) (dec_at lsk_260 (k := 5) rfl) rfl ?_
        refine u_ld (v := iV 0) (pc := 11) (dec_at lsk_260 (k := 6) rfl) rfl ?_
        have g28 := h.1
        have h := h.2
        have g29 := h.1
        have h := h.2
        refine u_iast (pc := 12) (dec_at lsk_260 (k := 7) rfl) sx_320 g28 g29 (fun u30 e31 => ?_)
        have h := h u30 e31
        refine u_rV (pc := 13) (dec_at lsk_260 (k := 8) rfl) rfl ?_
        refine u_ld (v := .ref 271) (pc := 69) (dec_at lsk_259 (k := 38) rfl) rfl ?_
        refine u_ld (v := .ref 271) (pc := 70) (dec_at lsk_259 (k := 39) rfl) rfl ?_
        refine u_gS (o := 45) (p := 316) (pc := 71) (dec_at lsk_259 (k := 40) rfl) f_12_145 sx_271 rfl rfl ?_
        refine u_ld (v := iV l1) (pc := 74) (dec_at lsk_259 (k := 41) rfl) rfl ?_
        refine u_iald (pc := 75) (dec_at lsk_259 (k := 42) rfl) sx_316 g4 g5 ?_
        refine u_cvV (As := [iV (u30.1 316 l1)]) (rb := 271) (st2 := []) (pc := 76) (dec_at lsk_259 (k := 43) rfl) m_12_473 (Or.inl rfl) rfl (Nat.le_of_ble_eq_true rfl) sx_271 me_260 rfl ?_ (fun _ h_ => h_)
        refine u_of me_260 (Nat.le_of_ble_eq_true rfl) ?_
        refine u_ld (v := iV (u30.1 316 l1)) (pc := 0) (dec_at lsk_260 (k := 0) rfl) rfl ?_
        refine u_c (x := (-2)) (pc := 1) (dec_at lsk_260 (k := 1) rfl) rfl (by decide) ?_
        have g32 := h.1
        have h := h.2
        refine u_icT (pc := 3) (tgt := 13) (dec_at lsk_260 (k := 2) rfl) rfl (ci_eq g32 (by decide)) (fun e33 => ?_) (fun e33 => ?_)
        · have h := ifT e33 h
          refine u_rV (pc := 13) (dec_at lsk_260 (k := 8) rfl) rfl ?_
          refine u_ld (v := .ref 271) (pc := 79) (dec_at lsk_259 (k := 44) rfl) rfl ?_
          refine u_ld (v := .ref 271) (pc := 80) (dec_at lsk_259 (k := 45) rfl) rfl ?_
          refine u_gS (o := 46) (p := 317) (pc := 81) (dec_at lsk_259 (k := 46) rfl) f_12_148 sx_271 rfl rfl ?_
          refine u_ld (v := iV l1) (pc := 84) (dec_at lsk_259 (k := 47) rfl) rfl ?_
          refine u_iald (pc := 85) (dec_at lsk_259 (k := 48) rfl) sx_317 g4 g5 ?_
          refine u_cvV (As := [iV (u30.1 317 l1)]) (rb := 271) (st2 := []) (pc := 86) (dec_at lsk_259 (k := 49) rfl) m_12_473 (Or.inl rfl) rfl (Nat.le_of_ble_eq_true rfl) sx_271 me_260 rfl ?_ (fun _ h_ => h_)
          refine u_of me_260 (Nat.le_of_ble_eq_true rfl) ?_
          refine u_ld (v := iV (u30.1 317 l1)) (pc := 0) (dec_at lsk_260 (k := 0) rfl) rfl ?_
          refine u_c (x := (-2)) (pc := 1) (dec_at lsk_260 (k := 1) rfl) rfl (by decide) ?_
          have g34 := h.1
          have h := h.2
          refine u_icT (pc := 3) (tgt := 13) (dec_at lsk_260 (k := 2) rfl) rfl (ci_eq g34 (by decide)) (fun e35 => ?_) (fun e35 => ?_)
          · have h := ifT e35 h
            refine u_rV (pc := 13) (dec_at lsk_260 (k := 8) rfl) rfl ?_
            refine u_inc (lv' := [.ref 271, iV (l1 + 1), .retAddr 0]) (pc := 89) (dec_at lsk_259 (k := 50) rfl) rfl (by decide) rfl ?_
            refine u_goto (pc := 92) (tgt := 41) (dec_at lsk_259 (k := 51) rfl) rfl ?_
            exact h
          · have h := ifF e35 h
            refine u_ld (v := .ref 271) (pc := 6) (dec_at lsk_260 (k := 3) rfl) rfl ?_
            refine u_gS (o := 49) (p := 320) (pc := 7) (dec_at lsk_260 (k := 4) rfl) f_12_157 sx_271 rfl rfl ?_
            refine u_ld (v := iV (u30.1 317 l1)) (pc := 10) (dec_at lsk_260 (k := 5) rfl) rfl ?_
            refine u_ld (v := iV 0) (pc := 11) (dec_at lsk_260 (k := 6) rfl) rfl ?_
            have g36 := h.1
            have h := h.2
            have g37 := h.1
            have h := h.2
            refine u_iast (pc := 12) (dec_at lsk_260 (k := 7) rfl) sx_320 g36 g37 (fun u38 e39 => ?_)
            have h := h u38 e39
            refine u_rV (pc := 13) (dec_at lsk_260 (k := 8) rfl) rfl ?_
            refine u_inc (lv' := [.ref 271, iV (l1 + 1), .retAddr 0]) (pc := 89) (dec_at lsk_259 (k := 50) rfl) rfl (by decide) rfl ?_
            refine u_goto (pc := 92) (tgt := 41) (dec_at lsk_259 (k := 51) rfl) rfl ?_
            exact h
        · have h := ifF e33 h
          refine u_ld (v := .ref 271) (pc := 6) (dec_at lsk_260 (k := 3) rfl) rfl ?_
          refine u_gS (o := 49) (p := 320) (pc := 7) (dec_at lsk_260 (k := 4) rfl) f_12_157 sx_271 rfl rfl ?_
          refine u_ld (v := iV (u30.1 316 l1)) (pc := 10) (dec_at lsk_260 (k := 5) rfl) rfl ?_
          refine u_ld (v := iV 0) (pc := 11) (dec_at lsk_260 (k := 6) rfl) rfl ?_
          have g40 := h.1
          have h := h.2
          have g41 := h.1
          have h := h.2
          refine u_iast (pc := 12) (dec_at lsk_260 (k := 7) rfl) sx_320 g40 g41 (fun u42 e43 => ?_)
          have h := h u42 e43
          refine u_rV (pc := 13) (dec_at lsk_260 (k := 8) rfl) rfl ?_
          refine u_ld (v := .ref 271) (pc := 79) (dec_at lsk_259 (k := 44) rfl) rfl ?_
          refine u_ld (v := .ref 271) (pc := 80) (dec_at lsk_259 (k := 45) rfl) rfl ?_
          refine u_gS (o := 46) (p := 317) (pc := 81) (dec_at lsk_259 (k := 46) rfl) f_12_148 sx_271 rfl rfl ?_
          refine u_ld (v := iV l1) (pc := 84) (dec_at lsk_259 (k := 47) rfl) rfl ?_
          refine u_iald (pc := 85) (dec_at lsk_259 (k := 48) rfl) sx_317 g4 g5 ?_
          refine u_cvV (As := [iV (u42.1 317 l1)]) (rb := 271) (st2 := []) (pc := 86) (dec_at lsk_259 (k := 49) rfl) m_12_473 (Or.inl rfl) rfl (Nat.le_of_ble_eq_true rfl) sx_271 me_260 rfl ?_ (fun _ h_ => h_)
          refine u_of me_260 (Nat.le_of_ble_eq_true rfl) ?_
          refine u_ld (v := iV (u42.1 317 l1)) (pc := 0) (dec_at lsk_260 (k := 0) rfl) rfl ?_
          refine u_c (x := (-2)) (pc := 1) (dec_at lsk_260 (k := 1) rfl) rfl (by decide) ?_
          have g44 := h.1
          have h := h.2
          refine u_icT (pc := 3) (tgt := 13) (dec_at lsk_260 (k := 2) rfl) rfl (ci_eq g44 (by decide)) (fun e45 => ?_) (fun e45 => ?_)
          · have h := ifT e45 h
            refine u_rV (pc := 13) (dec_at lsk_260 (k := 8) rfl) rfl ?_
            refine u_inc (lv' := [.ref 271, iV (l1 + 1), .retAddr 0]) (pc := 89) (dec_at lsk_259 (k := 50) rfl) rfl (by decide) rfl ?_
            refine u_goto (pc := 92) (tgt := 41) (dec_at lsk_259 (k := 51) rfl) rfl ?_
            exact h
          · have h := ifF e45 h
            refine u_ld (v := .ref 271) (pc := 6) (dec_at lsk_260 (k := 3) rfl) rfl ?_
            refine u_gS (o := 49) (p := 320) (pc := 7) (dec_at lsk_260 (k := 4) rfl) f_12_157 sx_271 rfl rfl ?_
            refine u_ld (v := iV (u42.1 317 l1)) (pc := 10) (dec_at lsk_260 (k := 5) rfl) rfl ?_
            refine u_ld (v := iV 0) (pc := 11) (dec_at lsk_260 (k := 6) rfl) rfl ?_
            have g46 := h.1
            have h := h.2
            have g47 := h.1
            have h := h.2
            refine u_iast (pc := 12) (dec_at lsk_260 (k := 7) rfl) sx_320 g46 g47 (fun u48 e49 => ?_)
            have h := h u48 e49
            refine u_rV (pc := 13) (dec_at lsk_260 (k := 8) rfl) rfl ?_
            refine u_inc (lv' := [.ref 271, iV (l1 + 1), .retAddr 0]) (pc := 89) (dec_at lsk_259 (k := 50) rfl) rfl (by decide) rfl ?_
            refine u_goto (pc := 92) (tgt := 41) (dec_at lsk_259 (k := 51) rfl) rfl ?_
            exact h
    · have h := ifF e7 h
      refine u_ld (v := .ref 271) (pc := 6) (dec_at lsk_260 (k := 3) rfl) rfl ?_
      refine u_gS (o := 49) (p := 320) (pc := 7) (dec_at lsk_260 (k := 4) rfl) f_12_157 sx_271 rfl rfl ?_
      refine u_ld (v := iV (u.1 314 l1)) (pc := 10) (dec_at lsk_260 (k := 5) rfl) rfl ?_
      refine u_ld (v := iV 0) (pc := 11) (dec_at lsk_260 (k := 6) rfl) rfl ?_
      have g50 := h.1
      have h := h.2
      have g51 := h.1
      have h := h.2
      refine u_iast (pc := 12) (dec_at lsk_260 (k := 7) rfl) sx_320 g50 g51 (fun u52 e53 => ?_)
      have h := h u52 e53
      refine u_rV (pc := 13) (dec_at lsk_260 (k := 8) rfl) rfl ?_
      refine u_ld (v := .ref 271) (pc := 59) (dec_at lsk_259 (k := 32) rfl) rfl ?_
      refine u_ld (v := .ref 271) (pc := 60) (dec_at lsk_259 (k := 33) rfl) rfl ?_
      refine u_gS (o := 44) (p := 315) (pc := 61) (dec_at lsk_259 (k := 34) rfl) f_12_142 sx_271 rfl rfl ?_
      refine u_ld (v := iV l1) (pc := 64) (dec_at lsk_259 (k := 35) rfl) rfl ?_
      refine u_iald (pc := 65) (dec_at lsk_259 (k := 36) rfl) sx_315 g4 g5 ?_
      refine u_cvV (As := [iV (u52.1 315 l1)]) (rb := 271) (st2 := []) (pc := 66) (dec_at lsk_259 (k := 37) rfl) m_12_473 (Or.inl rfl) rfl (Nat.le_of_ble_eq_true rfl) sx_271 me_260 rfl ?_ (fun _ h_ => h_)
      refine u_of me_260 (Nat.le_of_ble_eq_true rfl) ?_
      refine u_ld (v := iV (u52.1 315 l1)) (pc := 0) (dec_at lsk_260 (k := 0) rfl) rfl ?_
      refine u_c (x := (-2)) (pc := 1) (dec_at lsk_260 (k := 1) rfl) rfl (by decide) ?_
      have g54 := h.1
      have h := h.2
      refine u_icT (pc := 3) (tgt := 13) (dec_at lsk_260 (k := 2) rfl) rfl (ci_eq g54 (by decide)) (fun e55 => ?_) (fun e55 => ?_)
      · have h := ifT e55 h
        refine u_rV (pc := 13) (dec_at lsk_260 (k := 8) rfl) rfl ?_
        refine u_ld (v := .ref 271) (pc := 69) (dec_at lsk_259 (k := 38) rfl) rfl ?_
        refine u_ld (v := .ref 271) (pc := 70) (dec_at lsk_259 (k := 39) rfl) rfl ?_
        refine u_gS (o := 45) (p := 316) (pc := 71) (dec_at lsk_259 (k := 40) rfl) f_12_145 sx_271 rfl rfl ?_
        refine u_ld (v := iV l1) (pc := 74) (dec_at lsk_259 (k := 41) rfl) rfl ?_
        refine u_iald (pc := 75) (dec_at lsk_259 (k := 42) rfl) sx_316 g4 g5 ?_
        refine u_cvV (As := [iV (u52.1 316 l1)]) (rb := 271) (st2 := []) (pc := 76) (dec_at lsk_259 (k := 43) rfl) m_12_473 (Or.inl rfl) rfl (Nat.le_of_ble_eq_true rfl) sx_271 me_260 rfl ?_ (fun _ h_ => h_)
        refine u_of me_260 (Nat.le_of_ble_eq_true rfl) ?_
        refine u_ld (v := iV (u52.1 316 l1)) (pc := 0) (dec_at lsk_260 (k := 0) rfl) rfl ?_
        refine u_c (x := (-2)) (pc := 1) (dec_at lsk_260 (k := 1) rfl) rfl (by decide) ?_
        have g56 := h.1
        have h := h.2
        refine u_icT (pc := 3) (tgt := 13) (dec_at lsk_260 (k := 2) rfl) rfl (ci_eq g56 (by decide)) (fun e57 => ?_) (fun e57 => ?_)
        · have h := ifT e57 h
          refine u_rV (pc := 13) (dec_at lsk_260 (k := 8) rfl) rfl ?_
          refine u_ld (v := .ref 271) (pc := 79) (dec_at lsk_259 (k := 44) rfl) rfl ?_
          refine u_ld (v := .ref 271) (pc := 80) (dec_at lsk_259 (k := 45) rfl) rfl ?_
          refine u_gS (o := 46) (p := 317) (pc := 81) (dec_at lsk_259 (k := 46) rfl) f_12_148 sx_271 rfl rfl ?_
          refine u_ld (v := iV l1) (pc := 84) (dec_at lsk_259 (k := 47) rfl) rfl ?_
          refine u_iald (pc := 85) (dec_at lsk_259 (k := 48) rfl) sx_317 g4 g5 ?_
          refine u_cvV (As := [iV (u52.1 317 l1)]) (rb := 271) (st2 := []) (pc := 86) (dec_at lsk_259 (k := 49) rfl) m_12_473 (Or.inl rfl) rfl (Nat.le_of_ble_eq_true rfl) sx_271 me_260 rfl ?_ (fun _ h_ => h_)
          refine u_of me_260 (Nat.le_of_ble_eq_true rfl) ?_
          refine u_ld (v := iV (u52.1 317 l1)) (pc := 0) (dec_at lsk_260 (k := 0) rfl) rfl ?_
          refine u_c (x := (-2)) (pc := 1) (dec_at lsk_260 (k := 1) rfl) rfl (by decide) ?_
          have g58 := h.1
          have h := h.2
          refine u_icT (pc := 3) (tgt := 13) (dec_at lsk_260 (k := 2) rfl) rfl (ci_eq g58 (by decide)) (fun e59 => ?_) (fun e59 => ?_)
          · have h := ifT e59 h
            refine u_rV (pc := 13) (dec_at lsk_260 (k := 8) rfl) rfl ?_
            refine u_inc (lv' := [.ref 271, iV (l1 + 1), .retAddr 0]) (pc := 89) (dec_at lsk_259 (k := 50) rfl) rfl (by decide) rfl ?_
            refine u_goto (pc := 92) (tgt := 41) (dec_at lsk_259 (k := 51) rfl) rfl ?_
            exact h
          · have h := ifF e59 h
            refine u_ld (v := .ref 271) (pc := 6) (dec_at lsk_260 (k := 3) rfl) rfl ?_
            refine u_gS (o := 49) (p := 320) (pc := 7) (dec_at lsk_260 (k := 4) rfl) f_12_157 sx_271 rfl rfl ?_
            refine u_ld (v := iV (u52.1 317 l1)) (pc := 10) (dec_at lsk_260 (k := 5) rfl) rfl ?_
            refine u_ld (v := iV 0) (pc := 11) (dec_at lsk_260 (k := 6) rfl) rfl ?_
            have g60 := h.1
            have h := h.2
            have g61 := h.1
            have h := h.2
            refine u_iast (pc := 12) (dec_at lsk_260 (k := 7) rfl) sx_320 g60 g61 (fun u62 e63 => ?_)
            have h := h u62 e63
            refine u_rV (pc := 13) (dec_at lsk_260 (k := 8) rfl) rfl ?_
            refine u_inc (lv' := [.ref 271, iV (l1 + 1), .retAddr 0]) (pc := 89) (dec_at lsk_259 (k := 50) rfl) rfl (by decide) rfl ?_
            refine u_goto (pc := 92) (tgt := 41) (dec_at lsk_259 (k := 51) rfl) rfl ?_
            exact h
        · have h := ifF e57 h
          refine u_ld (v := .ref 271) (pc := 6) (dec_at lsk_260 (k := 3) rfl) rfl ?_
          refine u_gS (o := 49) (p := 320) (pc := 7) (dec_at lsk_260 (k := 4) rfl) f_12_157 sx_271 rfl rfl ?_
          refine u_ld (v := iV (u52.1 316 l1)) (pc := 10) (dec_at lsk_260 (k := 5) rfl) rfl ?_
          refine u_ld (v := iV 0) (pc := 11) (dec_at lsk_260 (k := 6) rfl) rfl ?_
          have g64 := h.1
          have h := h.2
          have g65 := h.1
          have h := h.2
          refine u_iast (pc := 12) (dec_at lsk_260 (k := 7) rfl) sx_320 g64 g65 (fun u66 e67 => ?_)
          have h := h u66 e67
          refine u_rV (pc := 13) (dec_at lsk_260 (k := 8) rfl) rfl ?_
          refine u_ld (v := .ref 271) (pc := 79) (dec_at lsk_259 (k := 44) rfl) rfl ?_
          refine u_ld (v := .ref 271) (pc := 80) (dec_at lsk_259 (k := 45) rfl) rfl ?_
          refine u_gS (o := 46) (p := 317) (pc := 81) (dec_at lsk_259 (k := 46) rfl) f_12_148 sx_271 rfl rfl ?_
          refine u_ld (v := iV l1) (pc := 84) (dec_at lsk_259 (k := 47) rfl) rfl ?_
          refine u_iald (pc := 85) (dec_at lsk_259 (k := 48) rfl) sx_317 g4 g5 ?_
          refine u_cvV (As := [iV (u66.1 317 l1)]) (rb := 271) (st2 := []) (pc := 86) (dec_at lsk_259 (k := 49) rfl) m_12_473 (Or.inl rfl) rfl (Nat.le_of_ble_eq_true rfl) sx_271 me_260 rfl ?_ (fun _ h_ => h_)
          refine u_of me_260 (Nat.le_of_ble_eq_true rfl) ?_
          refine u_ld (v := iV (u66.1 317 l1)) (pc := 0) (dec_at lsk_260 (k := 0) rfl) rfl ?_
          refine u_c (x := (-2)) (pc := 1) (dec_at lsk_260 (k := 1) rfl) rfl (by decide) ?_
          have g68 := h.1
          have h := h.2
          refine u_icT (pc := 3) (tgt := 13) (dec_at lsk_260 (k := 2) rfl) rfl (ci_eq g68 (by decide)) (fun e69 => ?_) (fun e69 => ?_)
          · have h := ifT e69 h
            refine u_rV (pc := 13) (dec_at lsk_260 (k := 8) rfl) rfl ?_
            refine u_inc (lv' := [.ref 271, iV (l1 + 1), .retAddr 0]) (pc := 89) (dec_at lsk_259 (k := 50) rfl) rfl (by decide) rfl ?_
            refine u_goto (pc := 92) (tgt := 41) (dec_at lsk_259 (k := 51) rfl) rfl ?_
            exact h
          · have h := ifF e69 h
            refine u_ld (v := .ref 271) (pc := 6) (dec_at lsk_260 (k := 3) rfl) rfl ?_
            refine u_gS (o := 49) (p := 320) (pc := 7) (dec_at lsk_260 (k := 4) rfl) f_12_157 sx_271 rfl rfl ?_
            refine u_ld (v := iV (u66.1 317 l1)) (pc := 10) (dec_at lsk_260 (k := 5) rfl) rfl ?_
            refine u_ld (v := iV 0) (pc := 11) (dec_at lsk_260 (k := 6) rfl) rfl ?_
            have g70 := h.1
            have h := h.2
            have g71 := h.1
            have h := h.2
            refine u_iast (pc := 12) (dec_at lsk_260 (k := 7) rfl) sx_320 g70 g71 (fun u72 e73 => ?_)
            have h := h u72 e73
            refine u_rV (pc := 13) (dec_at lsk_260 (k := 8) rfl) rfl ?_
            refine u_inc (lv' := [.ref 271, iV (l1 + 1), .retAddr 0]) (pc := 89) (dec_at lsk_259 (k := 50) rfl) rfl (by decide) rfl ?_
            refine u_goto (pc := 92) (tgt := 41) (dec_at lsk_259 (k := 51) rfl) rfl ?_
            exact h
      · have h := ifF e55 h
        refine u_ld (v := .ref 271) (pc := 6) (dec_at lsk_260 (k := 3) rfl) rfl ?_
        refine u_gS (o := 49) (p := 320) (pc := 7) (dec_at lsk_260 (k := 4) rfl) f_12_157 sx_271 rfl rfl ?_
        refine u_ld (v := iV (u52.1 315 l1)) (pc := 10) (dec_at lsk_260 (k := 5) rfl) rfl ?_
        refine u_ld (v := iV 0) (pc := 11) (dec_at lsk_260 (k := 6) rfl) rfl ?_
        have g74 := h.1
        have h := h.2
        have g75 := h.1
        have h := h.2
        refine u_iast (pc := 12) (dec_at lsk_260 (k := 7) rfl) sx_320 g74 g75 (fun u76 e77 => ?_)
        have h := h u76 e77
        refine u_rV (pc := 13) (dec_at lsk_260 (k := 8) rfl) rfl ?_
        refine u_ld (v := .ref 271) (pc := 69) (dec_at lsk_259 (k := 38) rfl) rfl ?_
        refine u_ld (v := .ref 271) (pc := 70) (dec_at lsk_259 (k := 39) rfl) rfl ?_
        refine u_gS (o := 45) (p := 316) (pc := 71) (dec_at lsk_259 (k := 40) rfl) f_12_145 sx_271 rfl rfl ?_
        refine u_ld (v := iV l1) (pc := 74) (dec_at lsk_259 (k := 41) rfl) rfl ?_
        refine u_iald (pc := 75) (dec_at lsk_259 (k := 42) rfl) sx_316 g4 g5 ?_
        refine u_cvV (As := [iV (u76.1 316 l1)]) (rb := 271) (st2 := []) (pc := 76) (dec_at lsk_259 (k := 43) rfl) m_12_473 (Or.inl rfl) rfl (Nat.le_of_ble_eq_true rfl) sx_271 me_260 rfl ?_ (fun _ h_ => h_)
        refine u_of me_260 (Nat.le_of_ble_eq_true rfl) ?_
        refine u_ld (v := iV (u76.1 316 l1)) (pc := 0) (dec_at lsk_260 (k := 0) rfl) rfl ?_
        refine u_c (x := (-2)) (pc := 1) (dec_at lsk_260 (k := 1) rfl) rfl (by decide) ?_
        have g78 := h.1
        have h := h.2
        refine u_icT (pc := 3) (tgt := 13) (dec_at lsk_260 (k := 2) rfl) rfl (ci_eq g78 (by decide)) (fun e79 => ?_) (fun e79 => ?_)
        · have h := ifT e79 h
          refine u_rV (pc := 13) (dec_at lsk_260 (k := 8) rfl) rfl ?_
          refine u_ld (v := .ref 271) (pc := 79) (dec_at lsk_259 (k := 44) rfl) rfl ?_
          refine u_ld (v := .ref 271) (pc := 80) (dec_at lsk_259 (k := 45) rfl) rfl ?_
          refine u_gS (o := 46) (p := 317) (pc := 81) (dec_at lsk_259 (k := 46) rfl) f_12_148 sx_271 rfl rfl ?_
          refine u_ld (v := iV l1) (pc := 84) (dec_at lsk_259 (k := 47) rfl) rfl ?_
          refine u_iald (pc := 85) (dec_at lsk_259 (k := 48) rfl) sx_317 g4 g5 ?_
          refine u_cvV (As := [iV (u76.1 317 l1)]) (rb := 271) (st2 := []) (pc := 86) (dec_at lsk_259 (k := 49) rfl) m_12_473 (Or.inl rfl) rfl (Nat.le_of_ble_eq_true rfl) sx_271 me_260 rfl ?_ (fun _ h_ => h_)
          refine u_of me_260 (Nat.le_of_ble_eq_true rfl) ?_
          refine u_ld (v := iV (u76.1 317 l1)) (pc := 0) (dec_at lsk_260 (k := 0) rfl) rfl ?_
          refine u_c (x := (-2)) (pc := 1) (dec_at lsk_260 (k := 1) rfl) rfl (by decide) ?_
          have g80 := h.1
          have h := h.2
          refine u_icT (pc := 3) (tgt := 13) (dec_at lsk_260 (k := 2) rfl) rfl (ci_eq g80 (by decide)) (fun e81 => ?_) (fun e81 => ?_)
          · have h := ifT e81 h
            refine u_rV (pc := 13) (dec_at lsk_260 (k := 8) rfl) rfl ?_
            refine u_inc (lv' := [.ref 271, iV (l1 + 1), .retAddr 0]) (pc := 89) (dec_at lsk_259 (k := 50) rfl) rfl (by decide) rfl ?_
            refine u_goto (pc := 92) (tgt := 41) (dec_at lsk_259 (k := 51) rfl) rfl ?_
            exact h
          · have h := ifF e81 h
            refine u_ld (v := .ref 271) (pc := 6) (dec_at lsk_260 (k := 3) rfl) rfl ?_
            refine u_gS (o := 49) (p := 320) (pc := 7) (dec_at lsk_260 (k := 4) rfl) f_12_157 sx_271 rfl rfl ?_
            refine u_ld (v := iV (u76.1 317 l1)) (pc := 10) (dec_at lsk_260 (k := 5) rfl) rfl ?_
            refine u_ld (v := iV 0) (pc := 11) (dec_at lsk_260 (k := 6) rfl) rfl ?_
            have g82 := h.1
            have h := h.2
            have g83 := h.1
            have h := h.2
            refine u_iast (pc := 12) (dec_at lsk_260 (k := 7) rfl) sx_320 g82 g83 (fun u84 e85 => ?_)
            have h := h u84 e85
            refine u_rV (pc := 13) (dec_at lsk_260 (k := 8) rfl) rfl ?_
            refine u_inc (lv' := [.ref 271, iV (l1 + 1), .retAddr 0]) (pc := 89) (dec_at lsk_259 (k := 50) rfl) rfl (by decide) rfl ?_
            refine u_goto (pc := 92) (tgt := 41) (dec_at lsk_259 (k := 51) rfl) rfl ?_
            exact h
        · have h := ifF e79 h
          refine u_ld (v := .ref 271) (pc := 6) (dec_at lsk_260 (k := 3) rfl) rfl ?_
          refine u_gS (o := 49) (p := 320) (pc := 7) (dec_at lsk_260 (k := 4) rfl) f_12_157 sx_271 rfl rfl ?_
          refine u_ld (v := iV (u76.1 316 l1)) (pc := 10) (dec_at lsk_260 (k := 5) rfl) rfl ?_
          refine u_ld (v := iV 0) (pc := 11) (dec_at lsk_260 (k := 6) rfl) rfl ?_
          have g86 := h.1
          have h := h.2
          have g87 := h.1
          have h := h.2
          refine u_iast (pc := 12) (dec_at lsk_260 (k := 7) rfl) sx_320 g86 g87 (fun u88 e89 => ?_)
          have h := h u88 e89
          refine u_rV (pc := 13) (dec_at lsk_260 (k := 8) rfl) rfl ?_
          refine u_ld (v := .ref 271) (pc := 79) (dec_at lsk_259 (k := 44) rfl) rfl ?_
          refine u_ld (v := .ref 271) (pc := 80) (dec_at lsk_259 (k := 45) rfl) rfl ?_
          refine u_gS (o := 46) (p := 317) (pc := 81) (dec_at lsk_259 (k := 46) rfl) f_12_148 sx_271 rfl rfl ?_
          refine u_ld (v := iV l1) (pc := 84) (dec_at lsk_259 (k := 47) rfl) rfl ?_
          refine u_iald (pc := 85) (dec_at lsk_259 (k := 48) rfl) sx_317 g4 g5 ?_
          refine u_cvV (As := [iV (u88.1 317 l1)]) (rb := 271) (st2 := []) (pc := 86) (dec_at lsk_259 (k := 49) rfl) m_12_473 (Or.inl rfl) rfl (Nat.le_of_ble_eq_true rfl) sx_271 me_260 rfl ?_ (fun _ h_ => h_)
          refine u_of me_260 (Nat.le_of_ble_eq_true rfl) ?_
          refine u_ld (v := iV (u88.1 317 l1)) (pc := 0) (dec_at lsk_260 (k := 0) rfl) rfl ?_
          refine u_c (x := (-2)) (pc := 1) (dec_at lsk_260 (k := 1) rfl) rfl (by decide) ?_
          have g90 := h.1
          have h := h.2
          refine u_icT (pc := 3) (tgt := 13) (dec_at lsk_260 (k := 2) rfl) rfl (ci_eq g90 (by decide)) (fun e91 => ?_) (fun e91 => ?_)
          · have h := ifT e91 h
            refine u_rV (pc := 13) (dec_at lsk_260 (k := 8) rfl) rfl ?_
            refine u_inc (lv' := [.ref 271, iV (l1 + 1), .retAddr 0]) (pc := 89) (dec_at lsk_259 (k := 50) rfl) rfl (by decide) rfl ?_
            refine u_goto (pc := 92) (tgt := 41) (dec_at lsk_259 (k := 51) rfl) rfl ?_
            exact h
          · have h := ifF e91 h
            refine u_ld (v := .ref 271) (pc := 6) (dec_at lsk_260 (k := 3) rfl) rfl ?_
            refine u_gS (o := 49) (p := 320) (pc := 7) (dec_at lsk_260 (k := 4) rfl) f_12_157 sx_271 rfl rfl ?_
            refine u_ld (v := iV (u88.1 317 l1)) (pc := 10) (dec_at lsk_260 (k := 5) rfl) rfl ?_
            refine u_ld (v := iV 0) (pc := 11) (dec_at lsk_260 (k := 6) rfl) rfl ?_
            have g92 := h.1
            have h := h.2
            have g93 := h.1
            have h := h.2
            refine u_iast (pc := 12) (dec_at lsk_260 (k := 7) rfl) sx_320 g92 g93 (fun u94 e95 => ?_)
            have h := h u94 e95
            refine u_rV (pc := 13) (dec_at lsk_260 (k := 8) rfl) rfl ?_
            refine u_inc (lv' := [.ref 271, iV (l1 + 1), .retAddr 0]) (pc := 89) (dec_at lsk_259 (k := 50) rfl) rfl (by decide) rfl ?_
            refine u_goto (pc := 92) (tgt := 41) (dec_at lsk_259 (k := 51) rfl) rfl ?_
            exact h
  · have h := ifF e3 h
    refine u_ld (v := iV 2) (pc := 95) (dec_at lsk_259 (k := 52) rfl) rfl ?_
    refine u_sto (lv' := [.ref 271, iV 2, .retAddr 0]) (pc := 96) (dec_at lsk_259 (k := 53) rfl) rfl ?_
    refine u_ld (v := iV 2) (pc := 97) (dec_at lsk_259 (k := 54) rfl) rfl ?_
    refine u_sto (lv' := [.ref 271, iV 2, iV 2]) (pc := 98) (dec_at lsk_259 (k := 55) rfl) rfl ?_
    exact h
theorem k_259_99 {d : Nat} {Q : uS → Prop} {u : uS} {l1 l2 : Int} (h : (rI l2) ∧ ((rI (u.1 271 42)) ∧ (if l2 < u.1 271 42 then ((0 ≤ l2) ∧ ((l2 < 100) ∧ ((rI (u.1 320 l2)) ∧ (if u.1 320 l2 = 0 then (cV (d + 1) 261 [.ref 271, iV l2, iV l1] u (fun u8 => ∀ u9 : uS, u9 = wr u8 320 l2 l1 → (K_259 (d + 1) 99 [.ref 271, iV (l1 + 1), iV (l2 + 1)] [] u9 Q))) else (K_259 (d + 1) 99 [.ref 271, iV l1, iV (l2 + 1)] [] u Q))))) else (∀ u11 : uS, u11 = wr u 271 42 l1 → (K_259 (d + 1) 145 [.ref 271, .retAddr 0, iV 0] [] u11 Q))))) : K_259 (d + 1) 99 [.ref 271, iV l1, iV l2] [] u Q := by
  unfold K_259
  refine u_ld (v := iV l2) (pc := 99) (dec_at lsk_259 (k := 56) rfl) rfl ?_
  refine u_ld (v := .ref 271) (pc := 100) (dec_at lsk_259 (k := 57) rfl) rfl ?_
  refine u_gI (z := 42) (pc := 101) (dec_at lsk_259 (k := 58) rfl) f_12_375 sx_271 rfl rfl ?_
  have g1 := h.1
  have h := h.2
  have g2 := h.1
  have h := h.2
  refine u_icF (pc := 104) (tgt := 138) (dec_at lsk_259 (k := 59) rfl) rfl (ci_ge g1 g2) (fun e3 => ?_) (fun e3 => ?_)
  · have h := ifT e3 h
    refine u_ld (v := .ref 271) (pc := 107) (dec_at lsk_259 (k := 60) rfl) rfl ?_
    refine u_gS (o := 49) (p := 320) (pc := 108) (dec_at lsk_259 (k := 61) rfl) f_12_157 sx_271 rfl rfl ?_
    refine u_ld (v := iV l2) (pc := 111) (dec_at lsk_259 (k := 62) rfl) rfl ?_
    have g4 := h.1
    have h := h.2
    have g5 := h.1
    have h := h.2
    refine u_iald (pc := 112) (dec_at lsk_259 (k := 63) rfl) sx_320 g4 g5 ?_
    have g6 := h.1
    have h := h.2
    refine u_ifF (pc := 113) (tgt := 132) (dec_at lsk_259 (k := 64) rfl) rfl (c0_ne g6) (fun e7 => ?_) (fun e7 => ?_)
    · have h := ifT e7 h
      refine u_ld (v := .ref 271) (pc := 116) (dec_at lsk_259 (k := 65) rfl) rfl ?_
      refine u_ld (v := iV l2) (pc := 117) (dec_at lsk_259 (k := 66) rfl) rfl ?_
      refine u_ld (v := iV l1) (pc := 118) (dec_at lsk_259 (k := 67) rfl) rfl ?_
      refine u_cvV (As := [iV l2, iV l1]) (rb := 271) (st2 := []) (pc := 119) (dec_at lsk_259 (k := 68) rfl) m_12_470 (Or.inl rfl) rfl (Nat.le_of_ble_eq_true rfl) sx_271 me_261 rfl h (fun u8 h => ?_)
      refine u_ld (v := .ref 271) (pc := 122) (dec_at lsk_259 (k := 69) rfl) rfl ?_
      refine u_gS (o := 49) (p := 320) (pc := 123) (dec_at lsk_259 (k := 70) rfl) f_12_157 sx_271 rfl rfl ?_
      refine u_ld (v := iV l2) (pc := 126) (dec_at lsk_259 (k := 71) rfl) rfl ?_
      refine u_ld (v := iV l1) (pc := 127) (dec_at lsk_259 (k := 72) rfl) rfl ?_
      refine u_iast (pc := 128) (dec_at lsk_259 (k := 73) rfl) sx_320 g4 g5 (fun u9 e10 => ?_)
      have h := h u9 e10
      refine u_inc (lv' := [.ref 271, iV (l1 + 1), iV l2]) (pc := 129) (dec_at lsk_259 (k := 74) rfl) rfl (by decide) rfl ?_
      refine u_inc (lv' := [.ref 271, iV (l1 + 1), iV (l2 + 1)]) (pc := 132) (dec_at lsk_259 (k := 75) rfl) rfl (by decide) rfl ?_
      refine u_goto (pc := 135) (tgt := 99) (dec_at lsk_259 (k := 76) rfl) rfl ?_
      exact h
    · have h := ifF e7 h
      refine u_inc (lv' := [.ref 271, iV l1, iV (l2 + 1)]) (pc := 132) (dec_at lsk_259 (k := 75) rfl) rfl (by decide) rfl ?_
      refine u_goto (pc := 135) (tgt := 99) (dec_at lsk_259 (k := 76) rfl) rfl ?_
      exact h
  · have h := ifF e3 h
    refine u_ld (v := .ref 271) (pc := 138) (dec_at lsk_259 (k := 77) rfl) rfl ?_
    refine u_ld (v := iV l1) (pc := 139) (dec_at lsk_259 (k := 78) rfl) rfl ?_
    refine u_pI (z := 42) (pc := 140) (dec_at lsk_259 (k := 79) rfl) f_12_375 sx_271 rfl rfl rfl rfl (fun u11 e12 => ?_)
    have h := h u11 e12
    refine u_ld (v := iV 0) (pc := 143) (dec_at lsk_259 (k := 80) rfl) rfl ?_
    refine u_sto (lv' := [.ref 271, iV l1, iV 0]) (pc := 144) (dec_at lsk_259 (k := 81) rfl) rfl ?_
    exact u_weak (sbK (sbD (sbK sb0))) h
theorem k_259_145 {d : Nat} {Q : uS → Prop} {u : uS} {l2 : Int} (h : (rI l2) ∧ ((rI (u.1 271 61)) ∧ (if l2 < u.1 271 61 then ((0 ≤ l2) ∧ ((l2 < 17) ∧ ((rI (u.1 314 l2)) ∧ (if u.1 314 l2 = (-2) then (∀ u8 : uS, u8 = wr u 314 l2 (-2) → ((rI (u8.1 315 l2)) ∧ (if u8.1 315 l2 = (-2) then (K_259 (d + 1) 218 [.ref 271, .retAddr 0, iV l2] [iV (-2), iV l2, .ref 315] u8 Q) else ((0 ≤ u8.1 315 l2) ∧ ((u8.1 315 l2 < 100) ∧ (K_259 (d + 1) 218 [.ref 271, .retAddr 0, iV l2] [iV (u8.1 320 (u8.1 315 l2)), iV l2, .ref 315] u8 Q)))))) else ((0 ≤ u.1 314 l2) ∧ ((u.1 314 l2 < 100) ∧ (∀ u16 : uS, u16 = wr u 314 l2 (u.1 320 (u.1 314 l2)) → ((rI (u16.1 315 l2)) ∧ (if u16.1 315 l2 = (-2) then (K_259 (d + 1) 218 [.ref 271, .retAddr 0, iV l2] [iV (-2), iV l2, .ref 315] u16 Q) else ((0 ≤ u16.1 315 l2) ∧ ((u16.1 315 l2 < 100) ∧ (K_259 (d + 1) 218 [.ref 271, .retAddr 0, iV l2] [iV (u16.1 320 (u16.1 315 l2)), iV l2, .ref 315] u16 Q)))))))))))) else (Q u)))) : K_259 (d + 1) 145 [.ref 271, .retAddr 0, iV l2] [] u Q := by
  unfold K_259
  refine u_ld (v := iV l2) (pc := 145) (dec_at lsk_259 (k := 82) rfl) rfl ?_
  refine u_ld (v := .ref 271) (pc := 146) (dec_at lsk_259 (k := 83) rfl) rfl ?_
  refine u_gI (z := 61) (pc := 147) (dec_at lsk_259 (k := 84) rfl) f_12_425 sx_271 rfl rfl ?_
  have g1 := h.1
  have h := h.2
  have g2 := h.1
  have h := h.2
  refine u_icF (pc := 150) (tgt := 291) (dec_at lsk_259 (k := 85) rfl) rfl (ci_ge g1 g2) (fun e3 => ?_) (fun e3 => ?_)
  · have h := ifT e3 h
    refine u_ld (v := .ref 271) (pc := 153) (dec_at lsk_259 (k := 86) rfl) rfl ?_
    refine u_gS (o := 43) (p := 314) (pc := 154) (dec_at lsk_259 (k := 87) rfl) f_12_139 sx_271 rfl rfl ?_
    refine u_ld (v := iV l2) (pc := 157) (dec_at lsk_259 (k := 88) rfl) rfl ?_
    refine u_ld (v := .ref 271) (pc := 158) (dec_at lsk_259 (k := 89) rfl) rfl ?_
    refine u_gS (o := 43) (p := 314) (pc := 159) (dec_at lsk_259 (k := 90) rfl) f_12_139 sx_271 rfl rfl ?_
    refine u_ld (v := iV l2) (pc := 162) (dec_at lsk_259 (k := 91) rfl) rfl ?_
    have g4 := h.1
    have h := h.2
    have g5 := h.1
    have h := h.2
    refine u_iald (pc := 163) (dec_at lsk_259 (k := 92) rfl) sx_314 g4 g5 ?_
    refine u_c (x := (-2)) (pc := 164) (dec_at lsk_259 (k := 93) rfl) rfl (by decide) ?_
    have g6 := h.1
    have h := h.2
    refine u_icF (pc := 166) (tgt := 174) (dec_at lsk_259 (k := 94) rfl) rfl (ci_ne g6 (by decide)) (fun e7 => ?_) (fun e7 => ?_)
    · have h := ifT e7 h
      refine u_c (x := (-2)) (pc := 169) (dec_at lsk_259 (k := 95) rfl) rfl (by decide) ?_
      refine u_goto (pc := 171) (tgt := 185) (dec_at lsk_259 (k := 96) rfl) rfl ?_
      refine u_iast (pc := 185) (dec_at lsk_259 (k := 104) rfl) sx_314 g4 g5 (fun u8 e9 => ?_)
      have h := h u8 e9
      refine u_ld (v := .ref 271) (pc := 186) (dec_at lsk_259 (k := 105) rfl) rfl ?_
      refine u_gS (o := 44) (p := 315) (pc := 187) (dec_at lsk_259 (k := 106) rfl) f_12_142 sx_271 rfl rfl ?_
      refine u_ld (v := iV l2) (pc := 190) (dec_at lsk_259 (k := 107) rfl) rfl ?_
      refine u_ld (v := .ref 271) (pc := 191) (dec_at lsk_259 (k := 108) rfl) rfl ?_
      refine u_gS (o := 44) (p := 315) (pc := 192) (dec_at lsk_259 (k := 109) rfl) f_12_142 sx_271 rfl rfl ?_
      refine u_ld (v := iV l2) (pc := 195) (dec_at lsk_259 (k := 110) rfl) rfl ?_
      refine u_iald (pc := 196) (dec_at lsk_259 (k := 111) rfl) sx_315 g4 g5 ?_
      refine u_c (x := (-2)) (pc := 197) (dec_at lsk_259 (k := 112) rfl) rfl (by decide) ?_
      have g10 := h.1
      have h := h.2
      refine u_icF (pc := 199) (tgt := 207) (dec_at lsk_259 (k := 113) rfl) rfl (ci_ne g10 (by decide)) (fun e11 => ?_) (fun e11 => ?_)
      · have h := ifT e11 h
        refine u_c (x := (-2)) (pc := 202) (dec_at lsk_259 (k := 114) rfl) rfl (by decide) ?_
        refine u_goto (pc := 204) (tgt := 218) (dec_at lsk_259 (k := 115) rfl) rfl ?_
        exact h
      · have h := ifF e11 h
        refine u_ld (v := .ref 271) (pc := 207) (dec_at lsk_259 (k := 116) rfl) rfl ?_
        refine u_gS (o := 49) (p := 320) (pc := 208) (dec_at lsk_259 (k := 117) rfl) f_12_157 sx_271 rfl rfl ?_
        refine u_ld (v := .ref 271) (pc := 211) (dec_at lsk_259 (k := 118) rfl) rfl ?_
        refine u_gS (o := 44) (p := 315) (pc := 212) (dec_at lsk_259 (k := 119) rfl) f_12_142 sx_271 rfl rfl ?_
        refine u_ld (v := iV l2) (pc := 215) (dec_at lsk_259 (k := 120) rfl) rfl ?_
        refine u_iald (pc := 216) (dec_at lsk_259 (k := 121) rfl) sx_315 g4 g5 ?_
        have g12 := h.1
        have h := h.2
        have g13 := h.1
        have h := h.2
        refine u_iald (pc := 217) (dec_at lsk_259 (k := 122) rfl) sx_320 g12 g13 ?_
        exact h
    · have h := ifF e7 h
      refine u_ld (v := .ref 271) (pc := 174) (dec_at lsk_259 (k := 97) rfl) rfl ?_
      refine u_gS (o := 49) (p := 320) (pc := 175) (dec_at lsk_259 (k := 98) rfl) f_12_157 sx_271 rfl rfl ?_
      refine u_ld (v := .ref 271) (pc := 178) (dec_at lsk_259 (k := 99) rfl) rfl ?_
      refine u_gS (o := 43) (p := 314) (pc := 179) (dec_at lsk_259 (k := 100) rfl) f_12_139 sx_271 rfl rfl ?_
      refine u_ld (v := iV l2) (pc := 182) (dec_at lsk_259 (k := 101) rfl) rfl ?_
      refine u_iald (pc := 183) (dec_at lsk_259 (k := 102) rfl) sx_314 g4 g5 ?_
      have g14 := h.1
      have h := h.2
      have g15 := h.1
      have h := h.2
      refine u_iald (pc := 184) (dec_at lsk_259 (k := 103) rfl) sx_320 g14 g15 ?_
      refine u_iast (pc := 185) (dec_at lsk_259 (k := 104) rfl) sx_314 g4 g5 (fun u16 e17 => ?_)
      have h := h u16 e17
      refine u_ld (v := .ref 271) (pc := 186) (dec_at lsk_259 (k := 105) rfl) rfl ?_
      refine u_gS (o := 44) (p := 315) (pc := 187) (dec_at lsk_259 (k := 106) rfl) f_12_142 sx_271 rfl rfl ?_
      refine u_ld (v := iV l2) (pc := 190) (dec_at lsk_259 (k := 107) rfl) rfl ?_
      refine u_ld (v := .ref 271) (pc := 191) (dec_at lsk_259 (k := 108) rfl) rfl ?_
      refine u_gS (o := 44) (p := 315) (pc := 192) (dec_at lsk_259 (k := 109) rfl) f_12_142 sx_271 rfl rfl ?_
      refine u_ld (v := iV l2) (pc := 195) (dec_at lsk_259 (k := 110) rfl) rfl ?_
      refine u_iald (pc := 196) (dec_at lsk_259 (k := 111) rfl) sx_315 g4 g5 ?_
      refine u_c (x := (-2)) (pc := 197) (dec_at lsk_259 (k := 112) rfl) rfl (by decide) ?_
      have g18 := h.1
      have h := h.2
      refine u_icF (pc := 199) (tgt := 207) (dec_at lsk_259 (k := 113) rfl) rfl (ci_ne g18 (by decide)) (fun e19 => ?_) (fun e19 => ?_)
      · have h := ifT e19 h
        refine u_c (x := (-2)) (pc := 202) (dec_at lsk_259 (k := 114) rfl) rfl (by decide) ?_
        refine u_goto (pc := 204) (tgt := 218) (dec_at lsk_259 (k := 115) rfl) rfl ?_
        exact h
      · have h := ifF e19 h
        refine u_ld (v := .ref 271) (pc := 207) (dec_at lsk_259 (k := 116) rfl) rfl ?_
        refine u_gS (o := 49) (p := 320) (pc := 208) (dec_at lsk_259 (k := 117) rfl) f_12_157 sx_271 rfl rfl ?_
        refine u_ld (v := .ref 271) (pc := 211) (dec_at lsk_259 (k := 118) rfl) rfl ?_
        refine u_gS (o := 44) (p := 315) (pc := 212) (dec_at lsk_259 (k := 119) rfl) f_12_142 sx_271 rfl rfl ?_
        refine u_ld (v := iV l2) (pc := 215) (dec_at lsk_259 (k := 120) rfl) rfl ?_
        refine u_iald (pc := 216) (dec_at lsk_259 (k := 121) rfl) sx_315 g4 g5 ?_
        have g20 := h.1
        have h := h.2
        have g21 := h.1
        have h := h.2
        refine u_iald (pc := 217) (dec_at lsk_259 (k := 122) rfl) sx_320 g20 g21 ?_
        exact h
  · have h := ifF e3 h
    exact u_rV (pc := 291) (dec_at lsk_259 (k := 164) rfl) rfl h
theorem k_259_218 {d : Nat} {Q : uS → Prop} {u : uS} {s0 : Nat} {l2 s1 s2 : Int} {ns0 : Nat} (hAs0 : isA s0 0 ns0) (h : (0 ≤ s1) ∧ ((s1 < (ns0 : Int)) ∧ (∀ u3 : uS, u3 = wr u s0 s1 s2 → ((0 ≤ l2) ∧ ((l2 < 17) ∧ ((rI (u3.1 316 l2)) ∧ (if u3.1 316 l2 = (-2) then (∀ u9 : uS, u9 = wr u3 316 l2 (-2) → ((rI (u9.1 317 l2)) ∧ (if u9.1 317 l2 = (-2) then (∀ u13 : uS, u13 = wr u9 317 l2 (-2) → (K_259 (d + 1) 145 [.ref 271, .retAddr 0, iV (l2 + 1)] [] u13 Q)) else ((0 ≤ u9.1 317 l2) ∧ ((u9.1 317 l2 < 100) ∧ (∀ u17 : uS, u17 = wr u9 317 l2 (u9.1 320 (u9.1 317 l2)) → (K_259 (d + 1) 145 [.ref 271, .retAddr 0, iV (l2 + 1)] [] u17 Q))))))) else ((0 ≤ u3.1 316 l2) ∧ ((u3.1 316 l2 < 100) ∧ (∀ u21 : uS, u21 = wr u3 316 l2 (u3.1 320 (u3.1 316 l2)) → ((rI (u21.1 317 l2)) ∧ (if u21.1 317 l2 = (-2) then (∀ u25 : uS, u25 = wr u21 317 l2 (-2) → (K_259 (d + 1) 145 [.ref 271, .retAddr 0, iV (l2 + 1)] [] u25 Q)) else ((0 ≤ u21.1 317 l2) ∧ ((u21.1 317 l2 < 100) ∧ (∀ u29 : uS, u29 = wr u21 317 l2 (u21.1 320 (u21.1 317 l2)) → (K_259 (d + 1) 145 [.ref 271, .retAddr 0, iV (l2 + 1)] [] u29 Q)))))))))))))))) : K_259 (d + 1) 218 [.ref 271, .retAddr 0, iV l2] [iV s2, iV s1, .ref s0] u Q := by
  unfold K_259
  have g1 := h.1
  have h := h.2
  have g2 := h.1
  have h := h.2
  refine u_iast (pc := 218) (dec_at lsk_259 (k := 123) rfl) hAs0 g1 g2 (fun u3 e4 => ?_)
  have h := h u3 e4
  refine u_ld (v := .ref 271) (pc := 219) (dec_at lsk_259 (k := 124) rfl) rfl ?_
  refine u_gS (o := 45) (p := 316) (pc := 220) (dec_at lsk_259 (k := 125) rfl) f_12_145 sx_271 rfl rfl ?_
  refine u_ld (v := iV l2) (pc := 223) (dec_at lsk_259 (k := 126) rfl) rfl ?_
  refine u_ld (v := .ref 271) (pc := 224) (dec_at lsk_259 (k := 127) rfl) rfl ?_
  refine u_gS (o := 45) (p := 316) (pc := 225) (dec_at lsk_259 (k := 128) rfl) f_12_145 sx_271 rfl rfl ?_
  refine u_ld (v := iV l2) (pc := 228) (dec_at lsk_259 (k := 129) rfl) rfl ?_
  have g5 := h.1
  have h := h.2
  have g6 := h.1
  have h := h.2
  refine u_iald (pc := 229) (dec_at lsk_259 (k := 130) rfl) sx_316 g5 g6 ?_
  refine u_c (x := (-2)) (pc := 230) (dec_at lsk_259 (k := 131) rfl) rfl (by decide) ?_
  have g7 := h.1
  have h := h.2
  refine u_icF (pc := 232) (tgt := 240) (dec_at lsk_259 (k := 132) rfl) rfl (ci_ne g7 (by decide)) (fun e8 => ?_) (fun e8 => ?_)
  · have h := ifT e8 h
    refine u_c (x := (-2)) (pc := 235) (dec_at lsk_259 (k := 133) rfl) rfl (by decide) ?_
    refine u_goto (pc := 237) (tgt := 251) (dec_at lsk_259 (k := 134) rfl) rfl ?_
    refine u_iast (pc := 251) (dec_at lsk_259 (k := 142) rfl) sx_316 g5 g6 (fun u9 e10 => ?_)
    have h := h u9 e10
    refine u_ld (v := .ref 271) (pc := 252) (dec_at lsk_259 (k := 143) rfl) rfl ?_
    refine u_gS (o := 46) (p := 317) (pc := 253) (dec_at lsk_259 (k := 144) rfl) f_12_148 sx_271 rfl rfl ?_
    refine u_ld (v := iV l2) (pc := 256) (dec_at lsk_259 (k := 145) rfl) rfl ?_
    refine u_ld (v := .ref 271) (pc := 257) (dec_at lsk_259 (k := 146) rfl) rfl ?_
    refine u_gS (o := 46) (p := 317) (pc := 258) (dec_at lsk_259 (k := 147) rfl) f_12_148 sx_271 rfl rfl ?_
    refine u_ld (v := iV l2) (pc := 261) (dec_at lsk_259 (k := 148) rfl) rfl ?_
    refine u_iald (pc := 262) (dec_at lsk_259 (k := 149) rfl) sx_317 g5 g6 ?_
    refine u_c (x := (-2)) (pc := 263) (dec_at lsk_259 (k := 150) rfl) rfl (by decide) ?_
    have g11 := h.1
    have h := h.2
    refine u_icF (pc := 265) (tgt := 273) (dec_at lsk_259 (k := 151) rfl) rfl (ci_ne g11 (by decide)) (fun e12 => ?_) (fun e12 => ?_)
    · have h := ifT e12 h
      refine u_c (x := (-2)) (pc := 268) (dec_at lsk_259 (k := 152) rfl) rfl (by decide) ?_
      refine u_goto (pc := 270) (tgt := 284) (dec_at lsk_259 (k := 153) rfl) rfl ?_
      refine u_iast (pc := 284) (dec_at lsk_259 (k := 161) rfl) sx_317 g5 g6 (fun u13 e14 => ?_)
      have h := h u13 e14
      refine u_inc (lv' := [.ref 271, .retAddr 0, iV (l2 + 1)]) (pc := 285) (dec_at lsk_259 (k := 162) rfl) rfl (by decide) rfl ?_
      refine u_goto (pc := 288) (tgt := 145) (dec_at lsk_259 (k := 163) rfl) rfl ?_
      exact h
    · have h := ifF e12 h
      refine u_ld (v := .ref 271) (pc := 273) (dec_at lsk_259 (k := 154) rfl) rfl ?_
      refine u_gS (o := 49) (p := 320) (pc := 274) (dec_at lsk_259 (k := 155) rfl) f_12_157 sx_271 rfl rfl ?_
      refine u_ld (v := .ref 271) (pc := 277) (dec_at lsk_259 (k := 156) rfl) rfl ?_
      refine u_gS (o := 46) (p := 317) (pc := 278) (dec_at lsk_259 (k := 157) rfl) f_12_148 sx_271 rfl rfl ?_
      refine u_ld (v := iV l2) (pc := 281) (dec_at lsk_259 (k := 158) rfl) rfl ?_
      refine u_iald (pc := 282) (dec_at lsk_259 (k := 159) rfl) sx_317 g5 g6 ?_
      have g15 := h.1
      have h := h.2
      have g16 := h.1
      have h := h.2
      refine u_iald (pc := 283) (dec_at lsk_259 (k := 160) rfl) sx_320 g15 g16 ?_
      refine u_iast (pc := 284) (dec_at lsk_259 (k := 161) rfl) sx_317 g5 g6 (fun u17 e18 => ?_)
      have h := h u17 e18
      refine u_inc (lv' := [.ref 271, .retAddr 0, iV (l2 + 1)]) (pc := 285) (dec_at lsk_259 (k := 162) rfl) rfl (by decide) rfl ?_
      refine u_goto (pc := 288) (tgt := 145) (dec_at lsk_259 (k := 163) rfl) rfl ?_
      exact h
  · have h := ifF e8 h
    refine u_ld (v := .ref 271) (pc := 240) (dec_at lsk_259 (k := 135) rfl) rfl ?_
    refine u_gS (o := 49) (p := 320) (pc := 241) (dec_at lsk_259 (k := 136) rfl) f_12_157 sx_271 rfl rfl ?_
    refine u_ld (v := .ref 271) (pc := 244) (dec_at lsk_259 (k := 137) rfl) rfl ?_
    refine u_gS (o := 45) (p := 316) (pc := 245) (dec_at lsk_259 (k := 138) rfl) f_12_145 sx_271 rfl rfl ?_
    refine u_ld (v := iV l2) (pc := 248) (dec_at lsk_259 (k := 139) rfl) rfl ?_
    refine u_iald (pc := 249) (dec_at lsk_259 (k := 140) rfl) sx_316 g5 g6 ?_
    have g19 := h.1
    have h := h.2
    have g20 := h.1
    have h := h.2
    refine u_iald (pc := 250) (dec_at lsk_259 (k := 141) rfl) sx_320 g19 g20 ?_
    refine u_iast (pc := 251) (dec_at lsk_259 (k := 142) rfl) sx_316 g5 g6 (fun u21 e22 => ?_)
    have h := h u21 e22
    refine u_ld (v := .ref 271) (pc := 252) (dec_at lsk_259 (k := 143) rfl) rfl ?_
    refine u_gS (o := 46) (p := 317) (pc := 253) (dec_at lsk_259 (k := 144) rfl) f_12_148 sx_271 rfl rfl ?_
    refine u_ld (v := iV l2) (pc := 256) (dec_at lsk_259 (k := 145) rfl) rfl ?_
    refine u_ld (v := .ref 271) (pc := 257) (dec_at lsk_259 (k := 146) rfl) rfl ?_
    refine u_gS (o := 46) (p := 317) (pc := 258) (dec_at lsk_259 (k := 147) rfl) f_12_148 sx_271 rfl rfl ?_
    refine u_ld (v := iV l2) (pc := 261) (dec_at lsk_259 (k := 148) rfl) rfl ?_
    refine u_iald (pc := 262) (dec_at lsk_259 (k := 149) rfl) sx_317 g5 g6 ?_
    refine u_c (x := (-2)) (pc := 263) (dec_at lsk_259 (k := 150) rfl) rfl (by decide) ?_
    have g23 := h.1
    have h := h.2
    refine u_icF (pc := 265) (tgt := 273) (dec_at lsk_259 (k := 151) rfl) rfl (ci_ne g23 (by decide)) (fun e24 => ?_) (fun e24 => ?_)
    · have h := ifT e24 h
      refine u_c (x := (-2)) (pc := 268) (dec_at lsk_259 (k := 152) rfl) rfl (by decide) ?_
      refine u_goto (pc := 270) (tgt := 284) (dec_at lsk_259 (k := 153) rfl) rfl ?_
      refine u_iast (pc := 284) (dec_at lsk_259 (k := 161) rfl) sx_317 g5 g6 (fun u25 e26 => ?_)
      have h := h u25 e26
      refine u_inc (lv' := [.ref 271, .retAddr 0, iV (l2 + 1)]) (pc := 285) (dec_at lsk_259 (k := 162) rfl) rfl (by decide) rfl ?_
      refine u_goto (pc := 288) (tgt := 145) (dec_at lsk_259 (k := 163) rfl) rfl ?_
      exact h
    · have h := ifF e24 h
      refine u_ld (v := .ref 271) (pc := 273) (dec_at lsk_259 (k := 154) rfl) rfl ?_
      refine u_gS (o := 49) (p := 320) (pc := 274) (dec_at lsk_259 (k := 155) rfl) f_12_157 sx_271 rfl rfl ?_
      refine u_ld (v := .ref 271) (pc := 277) (dec_at lsk_259 (k := 156) rfl) rfl ?_
      refine u_gS (o := 46) (p := 317) (pc := 278) (dec_at lsk_259 (k := 157) rfl) f_12_148 sx_271 rfl rfl ?_
      refine u_ld (v := iV l2) (pc := 281) (dec_at lsk_259 (k := 158) rfl) rfl ?_
      refine u_iald (pc := 282) (dec_at lsk_259 (k := 159) rfl) sx_317 g5 g6 ?_
      have g27 := h.1
      have h := h.2
      have g28 := h.1
      have h := h.2
      refine u_iald (pc := 283) (dec_at lsk_259 (k := 160) rfl) sx_320 g27 g28 ?_
      refine u_iast (pc := 284) (dec_at lsk_259 (k := 161) rfl) sx_317 g5 g6 (fun u29 e30 => ?_)
      have h := h u29 e30
      refine u_inc (lv' := [.ref 271, .retAddr 0, iV (l2 + 1)]) (pc := 285) (dec_at lsk_259 (k := 162) rfl) rfl (by decide) rfl ?_
      refine u_goto (pc := 288) (tgt := 145) (dec_at lsk_259 (k := 163) rfl) rfl ?_
      exact h
/-- method 261 -/
def K_261 (d pc : Nat) (lv : ev_L) (st : List Value) (u : uS) (Q : uS → Prop) : Prop := okU d 12 4 false none prog_14_method_61_code (qV Q) pc lv st u
theorem e_261 {d : Nat} {Q : uS → Prop} {u : uS} {l1 l2 : Int} (h : (0 ≤ l1) ∧ ((l1 < 100) ∧ ((0 ≤ l2) ∧ ((l2 < 100) ∧ (∀ u5 : uS, u5 = wr u 301 l2 (u.1 301 l1) → (K_261 d 14 [.ref 271, iV l1, iV l2, iV 0] [] u5 Q)))))) : cV (d + 1) 261 [.ref 271, iV l1, iV l2] u Q := by
  refine u_of me_261 (Nat.le_of_ble_eq_true rfl) ?_
  refine u_ld (v := .ref 271) (pc := 0) (dec_at lsk_261 (k := 0) rfl) rfl ?_
  refine u_gS (o := 30) (p := 301) (pc := 1) (dec_at lsk_261 (k := 1) rfl) f_12_99 sx_271 rfl rfl ?_
  refine u_ld (v := iV l2) (pc := 4) (dec_at lsk_261 (k := 2) rfl) rfl ?_
  refine u_ld (v := .ref 271) (pc := 5) (dec_at lsk_261 (k := 3) rfl) rfl ?_
  refine u_gS (o := 30) (p := 301) (pc := 6) (dec_at lsk_261 (k := 4) rfl) f_12_99 sx_271 rfl rfl ?_
  refine u_ld (v := iV l1) (pc := 9) (dec_at lsk_261 (k := 5) rfl) rfl ?_
  have g1 := h.1
  have h := h.2
  have g2 := h.1
  have h := h.2
  refine u_iald (pc := 10) (dec_at lsk_261 (k := 6) rfl) sx_301 g1 g2 ?_
  have g3 := h.1
  have h := h.2
  have g4 := h.1
  have h := h.2
  refine u_iast (pc := 11) (dec_at lsk_261 (k := 7) rfl) sx_301 g3 g4 (fun u5 e6 => ?_)
  have h := h u5 e6
  refine u_ld (v := iV 0) (pc := 12) (dec_at lsk_261 (k := 8) rfl) rfl ?_
  refine u_sto (lv' := [.ref 271, iV l1, iV l2, iV 0]) (pc := 13) (dec_at lsk_261 (k := 9) rfl) rfl ?_
  exact h
theorem k_261_14 {d : Nat} {Q : uS → Prop} {u : uS} {l1 l2 l3 : Int} (h : (rI l3) ∧ (if l3 < 40 then ((0 ≤ (40 * l1) + l3) ∧ (((40 * l1) + l3 < 4000) ∧ ((0 ≤ (40 * l2) + l3) ∧ (((40 * l2) + l3 < 4000) ∧ ((u.1 303 ((40 * l1) + l3) = 0 ∨ u.1 303 ((40 * l1) + l3) = 1) ∧ (∀ u8 : uS, u8 = wr u 303 ((40 * l2) + l3) (u.1 303 ((40 * l1) + l3)) → (K_261 d 14 [.ref 271, iV l1, iV l2, iV (l3 + 1)] [] u8 Q))))))) else (K_261 d 50 [.ref 271, iV l1, iV l2, iV 0] [] u Q))) : K_261 d 14 [.ref 271, iV l1, iV l2, iV l3] [] u Q := by
  unfold K_261
  refine u_ld (v := iV l3) (pc := 14) (dec_at lsk_261 (k := 10) rfl) rfl ?_
  refine u_c (x := 40) (pc := 15) (dec_at lsk_261 (k := 11) rfl) rfl (by decide) ?_
  have g1 := h.1
  have h := h.2
  refine u_icF (pc := 17) (tgt := 48) (dec_at lsk_261 (k := 12) rfl) rfl (ci_ge g1 (by decide)) (fun e2 => ?_) (fun e2 => ?_)
  · have h := ifT e2 h
    refine u_ld (v := .ref 271) (pc := 20) (dec_at lsk_261 (k := 13) rfl) rfl ?_
    refine u_gS (o := 32) (p := 303) (pc := 21) (dec_at lsk_261 (k := 14) rfl) f_12_106 sx_271 rfl rfl ?_
    refine u_c (x := 40) (pc := 24) (dec_at lsk_261 (k := 15) rfl) rfl (by decide) ?_
    refine u_ld (v := iV l2) (pc := 26) (dec_at lsk_261 (k := 16) rfl) rfl ?_
    refine u_imul (pc := 27) (dec_at lsk_261 (k := 17) rfl) ?_
    refine u_ld (v := iV l3) (pc := 28) (dec_at lsk_261 (k := 18) rfl) rfl ?_
    refine u_iadd (pc := 29) (dec_at lsk_261 (k := 19) rfl) ?_
    refine u_ld (v := .ref 271) (pc := 30) (dec_at lsk_261 (k := 20) rfl) rfl ?_
    refine u_gS (o := 32) (p := 303) (pc := 31) (dec_at lsk_261 (k := 21) rfl) f_12_106 sx_271 rfl rfl ?_
    refine u_c (x := 40) (pc := 34) (dec_at lsk_261 (k := 22) rfl) rfl (by decide) ?_
    refine u_ld (v := iV l1) (pc := 36) (dec_at lsk_261 (k := 23) rfl) rfl ?_
    refine u_imul (pc := 37) (dec_at lsk_261 (k := 24) rfl) ?_
    refine u_ld (v := iV l3) (pc := 38) (dec_at lsk_261 (k := 25) rfl) rfl ?_
    refine u_iadd (pc := 39) (dec_at lsk_261 (k := 26) rfl) ?_
    have g3 := h.1
    have h := h.2
    have g4 := h.1
    have h := h.2
    refine u_zald (pc := 40) (dec_at lsk_261 (k := 27) rfl) sx_303 g3 g4 ?_
    have g5 := h.1
    have h := h.2
    have g6 := h.1
    have h := h.2
    have g7 := h.1
    have h := h.2
    refine u_zast (pc := 41) (dec_at lsk_261 (k := 28) rfl) sx_303 g5 g6 g7 (fun u8 e9 => ?_)
    have h := h u8 e9
    refine u_inc (lv' := [.ref 271, iV l1, iV l2, iV (l3 + 1)]) (pc := 42) (dec_at lsk_261 (k := 29) rfl) rfl (by decide) rfl ?_
    refine u_goto (pc := 45) (tgt := 14) (dec_at lsk_261 (k := 30) rfl) rfl ?_
    exact h
  · have h := ifF e2 h
    refine u_ld (v := iV 0) (pc := 48) (dec_at lsk_261 (k := 31) rfl) rfl ?_
    refine u_sto (lv' := [.ref 271, iV l1, iV l2, iV 0]) (pc := 49) (dec_at lsk_261 (k := 32) rfl) rfl ?_
    exact h
theorem k_261_50 {d : Nat} {Q : uS → Prop} {u : uS} {l1 l2 l3 : Int} (h : (rI l3) ∧ (if l3 < 400 then ((0 ≤ (400 * l1) + l3) ∧ (((400 * l1) + l3 < 40000) ∧ ((0 ≤ (400 * l2) + l3) ∧ (((400 * l2) + l3 < 40000) ∧ (∀ u7 : uS, u7 = wr u 302 ((400 * l2) + l3) (u.1 302 ((400 * l1) + l3)) → (K_261 d 50 [.ref 271, iV l1, iV l2, iV (l3 + 1)] [] u7 Q)))))) else (Q u))) : K_261 d 50 [.ref 271, iV l1, iV l2, iV l3] [] u Q := by
  unfold K_261
  refine u_ld (v := iV l3) (pc := 50) (dec_at lsk_261 (k := 33) rfl) rfl ?_
  refine u_c (x := 400) (pc := 51) (dec_at lsk_261 (k := 34) rfl) rfl (by decide) ?_
  have g1 := h.1
  have h := h.2
  refine u_icF (pc := 54) (tgt := 87) (dec_at lsk_261 (k := 35) rfl) rfl (ci_ge g1 (by decide)) (fun e2 => ?_) (fun e2 => ?_)
  · have h := ifT e2 h
    refine u_ld (v := .ref 271) (pc := 57) (dec_at lsk_261 (k := 36) rfl) rfl ?_
    refine u_gS (o := 31) (p := 302) (pc := 58) (dec_at lsk_261 (k := 37) rfl) f_12_103 sx_271 rfl rfl ?_
    refine u_c (x := 400) (pc := 61) (dec_at lsk_261 (k := 38) rfl) rfl (by decide) ?_
    refine u_ld (v := iV l2) (pc := 64) (dec_at lsk_261 (k := 39) rfl) rfl ?_
    refine u_imul (pc := 65) (dec_at lsk_261 (k := 40) rfl) ?_
    refine u_ld (v := iV l3) (pc := 66) (dec_at lsk_261 (k := 41) rfl) rfl ?_
    refine u_iadd (pc := 67) (dec_at lsk_261 (k := 42) rfl) ?_
    refine u_ld (v := .ref 271) (pc := 68) (dec_at lsk_261 (k := 43) rfl) rfl ?_
    refine u_gS (o := 31) (p := 302) (pc := 69) (dec_at lsk_261 (k := 44) rfl) f_12_103 sx_271 rfl rfl ?_
    refine u_c (x := 400) (pc := 72) (dec_at lsk_261 (k := 45) rfl) rfl (by decide) ?_
    refine u_ld (v := iV l1) (pc := 75) (dec_at lsk_261 (k := 46) rfl) rfl ?_
    refine u_imul (pc := 76) (dec_at lsk_261 (k := 47) rfl) ?_
    refine u_ld (v := iV l3) (pc := 77) (dec_at lsk_261 (k := 48) rfl) rfl ?_
    refine u_iadd (pc := 78) (dec_at lsk_261 (k := 49) rfl) ?_
    have g3 := h.1
    have h := h.2
    have g4 := h.1
    have h := h.2
    refine u_iald (pc := 79) (dec_at lsk_261 (k := 50) rfl) sx_302 g3 g4 ?_
    have g5 := h.1
    have h := h.2
    have g6 := h.1
    have h := h.2
    refine u_iast (pc := 80) (dec_at lsk_261 (k := 51) rfl) sx_302 g5 g6 (fun u7 e8 => ?_)
    have h := h u7 e8
    refine u_inc (lv' := [.ref 271, iV l1, iV l2, iV (l3 + 1)]) (pc := 81) (dec_at lsk_261 (k := 52) rfl) rfl (by decide) rfl ?_
    refine u_goto (pc := 84) (tgt := 50) (dec_at lsk_261 (k := 53) rfl) rfl ?_
    exact h
  · have h := ifF e2 h
    exact u_rV (pc := 87) (dec_at lsk_261 (k := 54) rfl) rfl h
/-- method 262 -/
def K_262 (d pc : Nat) (lv : ev_L) (st : List Value) (u : uS) (Q : Int → uS → Prop) : Prop := okU d 12 5 false (some .int) prog_14_method_64_code (qI Q) pc lv st u
theorem e_262 {d : Nat} {Q : Int → uS → Prop} {u : uS} {l1 l2 l3 : Int} (h : (rI l1) ∧ (if l1 < 0 then (K_262 (d + 1) 44 [.ref 271, iV l1, iV l2, iV l3, .retAddr 0] [] u Q) else (if 1 < l1 then (K_262 (d + 1) 44 [.ref 271, iV l1, iV l2, iV l3, .retAddr 0] [] u Q) else ((rI l2) ∧ ((l1 < 100) ∧ ((rI ((u.1 301 l1) - 1)) ∧ (if l2 < 0 then (K_262 (d + 1) 44 [.ref 271, iV l1, iV l2, iV l3, .retAddr 0] [] u Q) else (if (u.1 301 l1) - 1 < l2 then (K_262 (d + 1) 44 [.ref 271, iV l1, iV l2, iV l3, .retAddr 0] [] u Q) else ((rI l3) ∧ (if l3 < 0 then (K_262 (d + 1) 44 [.ref 271, iV l1, iV l2, iV l3, .retAddr 0] [] u Q) else (if 9 < l3 then (K_262 (d + 1) 44 [.ref 271, iV l1, iV l2, iV l3, .retAddr 0] [] u Q) else ((0 ≤ ((400 * l1) + (10 * l2)) + l3) ∧ ((((400 * l1) + (10 * l2)) + l3 < 40000) ∧ (Q (u.1 302 (((400 * l1) + (10 * l2)) + l3)) u)))))))))))))) : cI (d + 2) 262 [.ref 271, iV l1, iV l2, iV l3] u Q := by
  refine u_of me_262 (Nat.le_of_ble_eq_true rfl) ?_
  refine u_ld (v := iV l1) (pc := 0) (dec_at lsk_262 (k := 0) rfl) rfl ?_
  have g1 := h.1
  have h := h.2
  refine u_i2l (pc := 1) (dec_at lsk_262 (k := 1) rfl) g1 ?_
  refine u_cl (x := 0) (pc := 2) (dec_at lsk_262 (k := 2) rfl) rfl (by decide) ?_
  refine u_cl (x := 1) (pc := 3) (dec_at lsk_262 (k := 3) rfl) rfl (by decide) ?_
  refine u_csI (As := [lV l1, lV 0, lV 1]) (st2 := []) (pc := 4) (dec_at lsk_262 (k := 4) rfl) m_12_250 (Or.inl rfl) rfl (Nat.le_of_ble_eq_true rfl) ?_ (fun _ _ h_ => h_)
  refine u_of me_203 (Nat.le_of_ble_eq_true rfl) ?_
  refine u_ld (v := lV l1) (pc := 0) (dec_at lsk_203 (k := 0) rfl) rfl ?_
  refine u_ld (v := lV 0) (pc := 1) (dec_at lsk_203 (k := 1) rfl) rfl ?_
  refine u_st (st' := [.int (lg_cmp (Int64.ofInt l1) (Int64.ofInt 0))]) (pc := 2) (dec_at lsk_203 (k := 2) rfl) rfl ?_
  refine u_ifT (pc := 3) (tgt := 17) (dec_at lsk_203 (k := 3) rfl) rfl (cl_lt (rl_ri g1) (by decide)) (fun e2 => ?_) (fun e2 => ?_)
  · have h := ifT e2 h
    refine u_ld (v := iV 0) (pc := 17) (dec_at lsk_203 (k := 10) rfl) rfl ?_
    refine u_rZ (pc := 18) (dec_at lsk_203 (k := 11) rfl) rfl (by decide) ?_
    refine u_ifT (pc := 7) (tgt := 44) (dec_at lsk_262 (k := 5) rfl) rfl (c0_eq (by decide)) (fun _ => ?_) (fun e => absurd e (by decide))
    exact h
  · have h := ifF e2 h
    refine u_ld (v := lV l1) (pc := 6) (dec_at lsk_203 (k := 4) rfl) rfl ?_
    refine u_ld (v := lV 1) (pc := 7) (dec_at lsk_203 (k := 5) rfl) rfl ?_
    refine u_st (st' := [.int (lg_cmp (Int64.ofInt l1) (Int64.ofInt 1))]) (pc := 9) (dec_at lsk_203 (k := 6) rfl) rfl ?_
    refine u_ifT (pc := 10) (tgt := 17) (dec_at lsk_203 (k := 7) rfl) rfl (cl_gt (rl_ri g1) (by decide)) (fun e3 => ?_) (fun e3 => ?_)
    · have h := ifT e3 h
      refine u_ld (v := iV 0) (pc := 17) (dec_at lsk_203 (k := 10) rfl) rfl ?_
      refine u_rZ (pc := 18) (dec_at lsk_203 (k := 11) rfl) rfl (by decide) ?_
      refine u_ifT (pc := 7) (tgt := 44) (dec_at lsk_262 (k := 5) rfl) rfl (c0_eq (by decide)) (fun _ => ?_) (fun e => absurd e (by decide))
      exact h
    · have h := ifF e3 h
      refine u_ld (v := iV 1) (pc := 13) (dec_at lsk_203 (k := 8) rfl) rfl ?_
      refine u_goto (pc := 14) (tgt := 18) (dec_at lsk_203 (k := 9) rfl) rfl ?_
      refine u_rZ (pc := 18) (dec_at lsk_203 (k := 11) rfl) rfl (by decide) ?_
      refine u_ifT (pc := 7) (tgt := 44) (dec_at lsk_262 (k := 5) rfl) rfl (c0_eq (by decide)) (fun e => absurd e (by decide)) (fun _ => ?_)
      refine u_ld (v := iV l2) (pc := 10) (dec_at lsk_262 (k := 6) rfl) rfl ?_
      have g4 := h.1
      have h := h.2
      refine u_i2l (pc := 11) (dec_at lsk_262 (k := 7) rfl) g4 ?_
      refine u_cl (x := 0) (pc := 12) (dec_at lsk_262 (k := 8) rfl) rfl (by decide) ?_
      refine u_ld (v := .ref 271) (pc := 13) (dec_at lsk_262 (k := 9) rfl) rfl ?_
      refine u_gS (o := 30) (p := 301) (pc := 14) (dec_at lsk_262 (k := 10) rfl) f_12_99 sx_271 rfl rfl ?_
      refine u_ld (v := iV l1) (pc := 17) (dec_at lsk_262 (k := 11) rfl) rfl ?_
      have g5 := h.1
      have h := h.2
      refine u_iald (pc := 18) (dec_at lsk_262 (k := 12) rfl) sx_301 (Int.not_lt.mp e2) g5 ?_
      refine u_ld (v := iV 1) (pc := 19) (dec_at lsk_262 (k := 13) rfl) rfl ?_
      refine u_isub (pc := 20) (dec_at lsk_262 (k := 14) rfl) ?_
      have g6 := h.1
      have h := h.2
      refine u_i2l (pc := 21) (dec_at lsk_262 (k := 15) rfl) g6 ?_
      refine u_csI (As := [lV l2, lV 0, lV ((u.1 301 l1) - 1)]) (st2 := []) (pc := 22) (dec_at lsk_262 (k := 16) rfl) m_12_250 (Or.inl rfl) rfl (Nat.le_of_ble_eq_true rfl) ?_ (fun _ _ h_ => h_)
      refine u_of me_203 (Nat.le_of_ble_eq_true rfl) ?_
      refine u_ld (v := lV l2) (pc := 0) (dec_at lsk_203 (k := 0) rfl) rfl ?_
      refine u_ld (v := lV 0) (pc := 1) (dec_at lsk_203 (k := 1) rfl) rfl ?_
      refine u_st (st' := [.int (lg_cmp (Int64.ofInt l2) (Int64.ofInt 0))]) (pc := 2) (dec_at lsk_203 (k := 2) rfl) rfl ?_
      refine u_ifT (pc := 3) (tgt := 17) (dec_at lsk_203 (k := 3) rfl) rfl (cl_lt (rl_ri g4) (by decide)) (fun e7 => ?_) (fun e7 => ?_)
      · have h := ifT e7 h
        refine u_ld (v := iV 0) (pc := 17) (dec_at lsk_203 (k := 10) rfl) rfl ?_
        refine u_rZ (pc := 18) (dec_at lsk_203 (k := 11) rfl) rfl (by decide) ?_
        refine u_ifT (pc := 25) (tgt := 44) (dec_at lsk_262 (k := 17) rfl) rfl (c0_eq (by decide)) (fun _ => ?_) (fun e => absurd e (by decide))
        exact h
      · have h := ifF e7 h
        refine u_ld (v := lV l2) (pc := 6) (dec_at lsk_203 (k := 4) rfl) rfl ?_
        refine u_ld (v := lV ((u.1 301 l1) - 1)) (pc := 7) (dec_at lsk_203 (k := 5) rfl) rfl ?_
        refine u_st (st' := [.int (lg_cmp (Int64.ofInt l2) (Int64.ofInt ((u.1 301 l1) - 1)))]) (pc := 9) (dec_at lsk_203 (k := 6) rfl) rfl ?_
        refine u_ifT (pc := 10) (tgt := 17) (dec_at lsk_203 (k := 7) rfl) rfl (cl_gt (rl_ri g4) (rl_ri g6)) (fun e8 => ?_) (fun e8 => ?_)
        · have h := ifT e8 h
          refine u_ld (v := iV 0) (pc := 17) (dec_at lsk_203 (k := 10) rfl) rfl ?_
          refine u_rZ (pc := 18) (dec_at lsk_203 (k := 11) rfl) rfl (by decide) ?_
          refine u_ifT (pc := 25) (tgt := 44) (dec_at lsk_262 (k := 17) rfl) rfl (c0_eq (by decide)) (fun _ => ?_) (fun e => absurd e (by decide))
          exact h
        · have h := ifF e8 h
          refine u_ld (v := iV 1) (pc := 13) (dec_at lsk_203 (k := 8) rfl) rfl ?_
          refine u_goto (pc := 14) (tgt := 18) (dec_at lsk_203 (k := 9) rfl) rfl ?_
          refine u_rZ (pc := 18) (dec_at lsk_203 (k := 11) rfl) rfl (by decide) ?_
          refine u_ifT (pc := 25) (tgt := 44) (dec_at lsk_262 (k := 17) rfl) rfl (c0_eq (by decide)) (fun e => absurd e (by decide)) (fun _ => ?_)
          refine u_ld (v := iV l3) (pc := 28) (dec_at lsk_262 (k := 18) rfl) rfl ?_
          have g9 := h.1
          have h := h.2
          refine u_i2l (pc := 29) (dec_at lsk_262 (k := 19) rfl) g9 ?_
          refine u_cl (x := 0) (pc := 30) (dec_at lsk_262 (k := 20) rfl) rfl (by decide) ?_
          refine u_ldc2 (x := 9) (pc := 31) (dec_at lsk_262 (k := 21) rfl) con_12_476 (by decide) ?_
          refine u_csI (As := [lV l3, lV 0, lV 9]) (st2 := []) (pc := 34) (dec_at lsk_262 (k := 22) rfl) m_12_250 (Or.inl rfl) rfl (Nat.le_of_ble_eq_true rfl) ?_ (fun _ _ h_ => h_)
          refine u_of me_203 (Nat.le_of_ble_eq_true rfl) ?_
          refine u_ld (v := lV l3) (pc := 0) (dec_at lsk_203 (k := 0) rfl) rfl ?_
          refine u_ld (v := lV 0) (pc := 1) (dec_at lsk_203 (k := 1) rfl) rfl ?_
          refine u_st (st' := [.int (lg_cmp (Int64.ofInt l3) (Int64.ofInt 0))]) (pc := 2) (dec_at lsk_203 (k := 2) rfl) rfl ?_
          refine u_ifT (pc := 3) (tgt := 17) (dec_at lsk_203 (k := 3) rfl) rfl (cl_lt (rl_ri g9) (by decide)) (fun e10 => ?_) (fun e10 => ?_)
          · have h := ifT e10 h
            refine u_ld (v := iV 0) (pc := 17) (dec_at lsk_203 (k := 10) rfl) rfl ?_
            refine u_rZ (pc := 18) (dec_at lsk_203 (k := 11) rfl) rfl (by decide) ?_
            refine u_ifT (pc := 37) (tgt := 44) (dec_at lsk_262 (k := 23) rfl) rfl (c0_eq (by decide)) (fun _ => ?_) (fun e => absurd e (by decide))
            exact h
          · have h := ifF e10 h
            refine u_ld (v := lV l3) (pc := 6) (dec_at lsk_203 (k := 4) rfl) rfl ?_
            refine u_ld (v := lV 9) (pc := 7) (dec_at lsk_203 (k := 5) rfl) rfl ?_
            refine u_st (st' := [.int (lg_cmp (Int64.ofInt l3) (Int64.ofInt 9))]) (pc := 9) (dec_at lsk_203 (k := 6) rfl) rfl ?_
            refine u_ifT (pc := 10) (tgt := 17) (dec_at lsk_203 (k := 7) rfl) rfl (cl_gt (rl_ri g9) (by decide)) (fun e11 => ?_) (fun e11 => ?_)
            · have h := ifT e11 h
              refine u_ld (v := iV 0) (pc := 17) (dec_at lsk_203 (k := 10) rfl) rfl ?_
              refine u_rZ (pc := 18) (dec_at lsk_203 (k := 11) rfl) rfl (by decide) ?_
              refine u_ifT (pc := 37) (tgt := 44) (dec_at lsk_262 (k := 23) rfl) rfl (c0_eq (by decide)) (fun _ => ?_) (fun e => absurd e (by decide))
              exact h
            · have h := ifF e11 h
              refine u_ld (v := iV 1) (pc := 13) (dec_at lsk_203 (k := 8) rfl) rfl ?_
              refine u_goto (pc := 14) (tgt := 18) (dec_at lsk_203 (k := 9) rfl) rfl ?_
              refine u_rZ (pc := 18) (dec_at lsk_203 (k := 11) rfl) rfl (by decide) ?_
              refine u_ifT (pc := 37) (tgt := 44) (dec_at lsk_262 (k := 23) rfl) rfl (c0_eq (by decide)) (fun e => absurd e (by decide)) (fun _ => ?_)
              refine u_ld (v := iV 1) (pc := 40) (dec_at lsk_262 (k := 24) rfl) rfl ?_
              refine u_goto (pc := 41) (tgt := 45) (dec_at lsk_262 (k := 25) rfl) rfl ?_
              refine u_sto (lv' := [.ref 271, iV l1, iV l2, iV l3, iV 1]) (pc := 45) (dec_at lsk_262 (k := 27) rfl) rfl ?_
              refine u_ld (v := iV 1) (pc := 47) (dec_at lsk_262 (k := 28) rfl) rfl ?_
              refine u_ifT (pc := 49) (tgt := 72) (dec_at lsk_262 (k := 29) rfl) rfl (c0_eq (by decide)) (fun e => absurd e (by decide)) (fun _ => ?_)
              refine u_ld (v := .ref 271) (pc := 52) (dec_at lsk_262 (k := 30) rfl) rfl ?_
              refine u_gS (o := 31) (p := 302) (pc := 53) (dec_at lsk_262 (k := 31) rfl) f_12_103 sx_271 rfl rfl ?_
              refine u_c (x := 400) (pc := 56) (dec_at lsk_262 (k := 32) rfl) rfl (by decide) ?_
              refine u_ld (v := iV l1) (pc := 59) (dec_at lsk_262 (k := 33) rfl) rfl ?_
              refine u_imul (pc := 60) (dec_at lsk_262 (k := 34) rfl) ?_
              refine u_c (x := 10) (pc := 61) (dec_at lsk_262 (k := 35) rfl) rfl (by decide) ?_
              refine u_ld (v := iV l2) (pc := 63) (dec_at lsk_262 (k := 36) rfl) rfl ?_
              refine u_imul (pc := 64) (dec_at lsk_262 (k := 37) rfl) ?_
              refine u_iadd (pc := 65) (dec_at lsk_262 (k := 38) rfl) ?_
              refine u_ld (v := iV l3) (pc := 66) (dec_at lsk_262 (k := 39) rfl) rfl ?_
              refine u_iadd (pc := 67) (dec_at lsk_262 (k := 40) rfl) ?_
              have g12 := h.1
              have h := h.2
              have g13 := h.1
              have h := h.2
              refine u_iald (pc := 68) (dec_at lsk_262 (k := 41) rfl) sx_302 g12 g13 ?_
              refine u_goto (pc := 69) (tgt := 73) (dec_at lsk_262 (k := 42) rfl) rfl ?_
              exact u_rI (pc := 73) (dec_at lsk_262 (k := 44) rfl) rfl h
theorem k_262_44 {d : Nat} {Q : Int → uS → Prop} {u : uS} {l1 l2 l3 : Int} (h : Q (-1) u) : K_262 (d + 1) 44 [.ref 271, iV l1, iV l2, iV l3, .retAddr 0] [] u Q := by
  unfold K_262
  refine u_ld (v := iV 0) (pc := 44) (dec_at lsk_262 (k := 26) rfl) rfl ?_
  refine u_sto (lv' := [.ref 271, iV l1, iV l2, iV l3, iV 0]) (pc := 45) (dec_at lsk_262 (k := 27) rfl) rfl ?_
  refine u_ld (v := iV 0) (pc := 47) (dec_at lsk_262 (k := 28) rfl) rfl ?_
  refine u_ifT (pc := 49) (tgt := 72) (dec_at lsk_262 (k := 29) rfl) rfl (c0_eq (by decide)) (fun _ => ?_) (fun e => absurd e (by decide))
  refine u_ld (v := iV (-1)) (pc := 72) (dec_at lsk_262 (k := 43) rfl) rfl ?_
  exact u_rI (pc := 73) (dec_at lsk_262 (k := 44) rfl) rfl h
/-- method 263 -/
def K_263 (d pc : Nat) (lv : ev_L) (st : List Value) (u : uS) (Q : Int → uS → Prop) : Prop := okU d 12 3 false (some .int) prog_14_method_65_code (qI Q) pc lv st u
theorem e_263 {d : Nat} {Q : Int → uS → Prop} {u : uS} {l1 l2 : Int} (h : (rI l1) ∧ (if l1 < 0 then (Q (-1) u) else (if 1 < l1 then (Q (-1) u) else ((rI l2) ∧ ((l1 < 100) ∧ ((rI ((u.1 301 l1) - 1)) ∧ (if l2 < (-1) then (Q (-1) u) else (if (u.1 301 l1) - 1 < l2 then (Q (-1) u) else (if l2 = (-1) then (Q (u.1 301 l1) u) else ((0 ≤ (40 * l1) + l2) ∧ (((40 * l1) + l2 < 4000) ∧ ((rI (u.1 303 ((40 * l1) + l2))) ∧ (if u.1 303 ((40 * l1) + l2) = 0 then (Q 0 u) else (Q 1 u)))))))))))))) : cI (d + 2) 263 [.ref 271, iV l1, iV l2] u Q := by
  refine u_of me_263 (Nat.le_of_ble_eq_true rfl) ?_
  refine u_ld (v := iV l1) (pc := 0) (dec_at lsk_263 (k := 0) rfl) rfl ?_
  have g1 := h.1
  have h := h.2
  refine u_i2l (pc := 1) (dec_at lsk_263 (k := 1) rfl) g1 ?_
  refine u_cl (x := 0) (pc := 2) (dec_at lsk_263 (k := 2) rfl) rfl (by decide) ?_
  refine u_cl (x := 1) (pc := 3) (dec_at lsk_263 (k := 3) rfl) rfl (by decide) ?_
  refine u_csI (As := [lV l1, lV 0, lV 1]) (st2 := []) (pc := 4) (dec_at lsk_263 (k := 4) rfl) m_12_250 (Or.inl rfl) rfl (Nat.le_of_ble_eq_true rfl) ?_ (fun _ _ h_ => h_)
  refine u_of me_203 (Nat.le_of_ble_eq_true rfl) ?_
  refine u_ld (v := lV l1) (pc := 0) (dec_at lsk_203 (k := 0) rfl) rfl ?_
  refine u_ld (v := lV 0) (pc := 1) (dec_at lsk_203 (k := 1) rfl) rfl ?_
  refine u_st (st' := [.int (lg_cmp (Int64.ofInt l1) (Int64.ofInt 0))]) (pc := 2) (dec_at lsk_203 (k := 2) rfl) rfl ?_
  refine u_ifT (pc := 3) (tgt := 17) (dec_at lsk_203 (k := 3) rfl) rfl (cl_lt (rl_ri g1) (by decide)) (fun e2 => ?_) (fun e2 => ?_)
  · have h := ifT e2 h
    refine u_ld (v := iV 0) (pc := 17) (dec_at lsk_203 (k := 10) rfl) rfl ?_
    refine u_rZ (pc := 18) (dec_at lsk_203 (k := 11) rfl) rfl (by decide) ?_
    refine u_ifT (pc := 7) (tgt := 30) (dec_at lsk_263 (k := 5) rfl) rfl (c0_eq (by decide)) (fun _ => ?_) (fun e => absurd e (by decide))
    refine u_ld (v := iV (-1)) (pc := 30) (dec_at lsk_263 (k := 18) rfl) rfl ?_
    exact u_rI (pc := 31) (dec_at lsk_263 (k := 19) rfl) rfl h
  · have h := ifF e2 h
    refine u_ld (v := lV l1) (pc := 6) (dec_at lsk_203 (k := 4) rfl) rfl ?_
    refine u_ld (v := lV 1) (pc := 7) (dec_at lsk_203 (k := 5) rfl) rfl ?_
    refine u_st (st' := [.int (lg_cmp (Int64.ofInt l1) (Int64.ofInt 1))]) (pc := 9) (dec_at lsk_203 (k := 6) rfl) rfl ?_
    refine u_ifT (pc := 10) (tgt := 17) (dec_at lsk_203 (k := 7) rfl) rfl (cl_gt (rl_ri g1) (by decide)) (fun e3 => ?_) (fun e3 => ?_)
    · have h := ifT e3 h
      refine u_ld (v := iV 0) (pc := 17) (dec_at lsk_203 (k := 10) rfl) rfl ?_
      refine u_rZ (pc := 18) (dec_at lsk_203 (k := 11) rfl) rfl (by decide) ?_
      refine u_ifT (pc := 7) (tgt := 30) (dec_at lsk_263 (k := 5) rfl) rfl (c0_eq (by decide)) (fun _ => ?_) (fun e => absurd e (by decide))
      refine u_ld (v := iV (-1)) (pc := 30) (dec_at lsk_263 (k := 18) rfl) rfl ?_
      exact u_rI (pc := 31) (dec_at lsk_263 (k := 19) rfl) rfl h
    · have h := ifF e3 h
      refine u_ld (v := iV 1) (pc := 13) (dec_at lsk_203 (k := 8) rfl) rfl ?_
      refine u_goto (pc := 14) (tgt := 18) (dec_at lsk_203 (k := 9) rfl) rfl ?_
      refine u_rZ (pc := 18) (dec_at lsk_203 (k := 11) rfl) rfl (by decide) ?_
      refine u_ifT (pc := 7) (tgt := 30) (dec_at lsk_263 (k := 5) rfl) rfl (c0_eq (by decide)) (fun e => absurd e (by decide)) (fun _ => ?_)
      refine u_ld (v := iV l2) (pc := 10) (dec_at lsk_263 (k := 6) rfl) rfl ?_
      have g4 := h.1
      have h := h.2
      refine u_i2l (pc := 11) (dec_at lsk_263 (k := 7) rfl) g4 ?_
      refine u_ldc2 (x := (-1)) (pc := 12) (dec_at lsk_263 (k := 8) rfl) con_12_331 (by decide) ?_
      refine u_ld (v := .ref 271) (pc := 15) (dec_at lsk_263 (k := 9) rfl) rfl ?_
      refine u_gS (o := 30) (p := 301) (pc := 16) (dec_at lsk_263 (k := 10) rfl) f_12_99 sx_271 rfl rfl ?_
      refine u_ld (v := iV l1) (pc := 19) (dec_at lsk_263 (k := 11) rfl) rfl ?_
      have g5 := h.1
      have h := h.2
      refine u_iald (pc := 20) (dec_at lsk_263 (k := 12) rfl) sx_301 (Int.not_lt.mp e2) g5 ?_
      refine u_ld (v := iV 1) (pc := 21) (dec_at lsk_263 (k := 13) rfl) rfl ?_
      refine u_isub (pc := 22) (dec_at lsk_263 (k := 14) rfl) ?_
      have g6 := h.1
      have h := h.2
      refine u_i2l (pc := 23) (dec_at lsk_263 (k := 15) rfl) g6 ?_
      refine u_csI (As := [lV l2, lV (-1), lV ((u.1 301 l1) - 1)]) (st2 := []) (pc := 24) (dec_at lsk_263 (k := 16) rfl) m_12_250 (Or.inl rfl) rfl (Nat.le_of_ble_eq_true rfl) ?_ (fun _ _ h_ => h_)
      refine u_of me_203 (Nat.le_of_ble_eq_true rfl) ?_
      refine u_ld (v := lV l2) (pc := 0) (dec_at lsk_203 (k := 0) rfl) rfl ?_
      refine u_ld (v := lV (-1)) (pc := 1) (dec_at lsk_203 (k := 1) rfl) rfl ?_
      refine u_st (st' := [.int (lg_cmp (Int64.ofInt l2) (Int64.ofInt (-1)))]) (pc := 2) (dec_at lsk_203 (k := 2) rfl) rfl ?_
      refine u_ifT (pc := 3) (tgt := 17) (dec_at lsk_203 (k := 3) rfl) rfl (cl_lt (rl_ri g4) (by decide)) (fun e7 => ?_) (fun e7 => ?_)
      · have h := ifT e7 h
        refine u_ld (v := iV 0) (pc := 17) (dec_at lsk_203 (k := 10) rfl) rfl ?_
        refine u_rZ (pc := 18) (dec_at lsk_203 (k := 11) rfl) rfl (by decide) ?_
        refine u_ifF (pc := 27) (tgt := 32) (dec_at lsk_263 (k := 17) rfl) rfl (c0_ne (by decide)) (fun _ => ?_) (fun e => absurd e (by decide))
        refine u_ld (v := iV (-1)) (pc := 30) (dec_at lsk_263 (k := 18) rfl) rfl ?_
        exact u_rI (pc := 31) (dec_at lsk_263 (k := 19) rfl) rfl h
      · have h := ifF e7 h
        refine u_ld (v := lV l2) (pc := 6) (dec_at lsk_203 (k := 4) rfl) rfl ?_
        refine u_ld (v := lV ((u.1 301 l1) - 1)) (pc := 7) (dec_at lsk_203 (k := 5) rfl) rfl ?_
        refine u_st (st' := [.int (lg_cmp (Int64.ofInt l2) (Int64.ofInt ((u.1 301 l1) - 1)))]) (pc := 9) (dec_at lsk_203 (k := 6) rfl) rfl ?_
        refine u_ifT (pc := 10) (tgt := 17) (dec_at lsk_203 (k := 7) rfl) rfl (cl_gt (rl_ri g4) (rl_ri g6)) (fun e8 => ?_) (fun e8 => ?_)
        · have h := ifT e8 h
          refine u_ld (v := iV 0) (pc := 17) (dec_at lsk_203 (k := 10) rfl) rfl ?_
          refine u_rZ (pc := 18) (dec_at lsk_203 (k := 11) rfl) rfl (by decide) ?_
          refine u_ifF (pc := 27) (tgt := 32) (dec_at lsk_263 (k := 17) rfl) rfl (c0_ne (by decide)) (fun _ => ?_) (fun e => absurd e (by decide))
          refine u_ld (v := iV (-1)) (pc := 30) (dec_at lsk_263 (k := 18) rfl) rfl ?_
          exact u_rI (pc := 31) (dec_at lsk_263 (k := 19) rfl) rfl h
        · have h := ifF e8 h
          refine u_ld (v := iV 1) (pc := 13) (dec_at lsk_203 (k := 8) rfl) rfl ?_
          refine u_goto (pc := 14) (tgt := 18) (dec_at lsk_203 (k := 9) rfl) rfl ?_
          refine u_rZ (pc := 18) (dec_at lsk_203 (k := 11) rfl) rfl (by decide) ?_
          refine u_ifF (pc := 27) (tgt := 32) (dec_at lsk_263 (k := 17) rfl) rfl (c0_ne (by decide)) (fun e => absurd e (by decide)) (fun _ => ?_)
          refine u_ld (v := iV l2) (pc := 32) (dec_at lsk_263 (k := 20) rfl) rfl ?_
          refine u_ld (v := iV (-1)) (pc := 33) (dec_at lsk_263 (k := 21) rfl) rfl ?_
          refine u_icF (pc := 34) (tgt := 46) (dec_at lsk_263 (k := 22) rfl) rfl (ci_ne g4 (by decide)) (fun e9 => ?_) (fun e9 => ?_)
          · have h := ifT e9 h
            refine u_ld (v := .ref 271) (pc := 37) (dec_at lsk_263 (k := 23) rfl) rfl ?_
            refine u_gS (o := 30) (p := 301) (pc := 38) (dec_at lsk_263 (k := 24) rfl) f_12_99 sx_271 rfl rfl ?_
            refine u_ld (v := iV l1) (pc := 41) (dec_at lsk_263 (k := 25) rfl) rfl ?_
            refine u_iald (pc := 42) (dec_at lsk_263 (k := 26) rfl) sx_301 (Int.not_lt.mp e2) g5 ?_
            refine u_goto (pc := 43) (tgt := 65) (dec_at lsk_263 (k := 27) rfl) rfl ?_
            exact u_rI (pc := 65) (dec_at lsk_263 (k := 40) rfl) rfl h
          · have h := ifF e9 h
            refine u_ld (v := .ref 271) (pc := 46) (dec_at lsk_263 (k := 28) rfl) rfl ?_
            refine u_gS (o := 32) (p := 303) (pc := 47) (dec_at lsk_263 (k := 29) rfl) f_12_106 sx_271 rfl rfl ?_
            refine u_c (x := 40) (pc := 50) (dec_at lsk_263 (k := 30) rfl) rfl (by decide) ?_
            refine u_ld (v := iV l1) (pc := 52) (dec_at lsk_263 (k := 31) rfl) rfl ?_
            refine u_imul (pc := 53) (dec_at lsk_263 (k := 32) rfl) ?_
            refine u_ld (v := iV l2) (pc := 54) (dec_at lsk_263 (k := 33) rfl) rfl ?_
            refine u_iadd (pc := 55) (dec_at lsk_263 (k := 34) rfl) ?_
            have g10 := h.1
            have h := h.2
            have g11 := h.1
            have h := h.2
            refine u_zald (pc := 56) (dec_at lsk_263 (k := 35) rfl) sx_303 g10 g11 ?_
            have g12 := h.1
            have h := h.2
            refine u_ifT (pc := 57) (tgt := 64) (dec_at lsk_263 (k := 36) rfl) rfl (c0_eq g12) (fun e13 => ?_) (fun e13 => ?_)
            · have h := ifT e13 h
              refine u_ld (v := iV 0) (pc := 64) (dec_at lsk_263 (k := 39) rfl) rfl ?_
              exact u_rI (pc := 65) (dec_at lsk_263 (k := 40) rfl) rfl h
            · have h := ifF e13 h
              refine u_ld (v := iV 1) (pc := 60) (dec_at lsk_263 (k := 37) rfl) rfl ?_
              refine u_goto (pc := 61) (tgt := 65) (dec_at lsk_263 (k := 38) rfl) rfl ?_
              exact u_rI (pc := 65) (dec_at lsk_263 (k := 40) rfl) rfl h
/-- method 264 -/
def K_264 (d pc : Nat) (lv : ev_L) (st : List Value) (u : uS) (Q : Int → uS → Prop) : Prop := okU d 12 4 false (some .int) prog_14_method_66_code (qI Q) pc lv st u
theorem e_264 {d : Nat} {Q : Int → uS → Prop} {u : uS} {l1 : Int} (h : (rI l1) ∧ (if l1 < 0 then (Q (-1) u) else (if 1 < l1 then (Q (-1) u) else (K_264 (d + 1) 16 [.ref 271, iV l1, iV 0, iV 0] [] u Q)))) : cI (d + 2) 264 [.ref 271, iV l1] u Q := by
  refine u_of me_264 (Nat.le_of_ble_eq_true rfl) ?_
  refine u_ld (v := iV l1) (pc := 0) (dec_at lsk_264 (k := 0) rfl) rfl ?_
  have g1 := h.1
  have h := h.2
  refine u_i2l (pc := 1) (dec_at lsk_264 (k := 1) rfl) g1 ?_
  refine u_cl (x := 0) (pc := 2) (dec_at lsk_264 (k := 2) rfl) rfl (by decide) ?_
  refine u_cl (x := 1) (pc := 3) (dec_at lsk_264 (k := 3) rfl) rfl (by decide) ?_
  refine u_csI (As := [lV l1, lV 0, lV 1]) (st2 := []) (pc := 4) (dec_at lsk_264 (k := 4) rfl) m_12_250 (Or.inl rfl) rfl (Nat.le_of_ble_eq_true rfl) ?_ (fun _ _ h_ => h_)
  refine u_of me_203 (Nat.le_of_ble_eq_true rfl) ?_
  refine u_ld (v := lV l1) (pc := 0) (dec_at lsk_203 (k := 0) rfl) rfl ?_
  refine u_ld (v := lV 0) (pc := 1) (dec_at lsk_203 (k := 1) rfl) rfl ?_
  refine u_st (st' := [.int (lg_cmp (Int64.ofInt l1) (Int64.ofInt 0))]) (pc := 2) (dec_at lsk_203 (k := 2) rfl) rfl ?_
  refine u_ifT (pc := 3) (tgt := 17) (dec_at lsk_203 (k := 3) rfl) rfl (cl_lt (rl_ri g1) (by decide)) (fun e2 => ?_) (fun e2 => ?_)
  · have h := ifT e2 h
    refine u_ld (v := iV 0) (pc := 17) (dec_at lsk_203 (k := 10) rfl) rfl ?_
    refine u_rZ (pc := 18) (dec_at lsk_203 (k := 11) rfl) rfl (by decide) ?_
    refine u_ifF (pc := 7) (tgt := 12) (dec_at lsk_264 (k := 5) rfl) rfl (c0_ne (by decide)) (fun _ => ?_) (fun e => absurd e (by decide))
    refine u_ld (v := iV (-1)) (pc := 10) (dec_at lsk_264 (k := 6) rfl) rfl ?_
    exact u_rI (pc := 11) (dec_at lsk_264 (k := 7) rfl) rfl h
  · have h := ifF e2 h
    refine u_ld (v := lV l1) (pc := 6) (dec_at lsk_203 (k := 4) rfl) rfl ?_
    refine u_ld (v := lV 1) (pc := 7) (dec_at lsk_203 (k := 5) rfl) rfl ?_
    refine u_st (st' := [.int (lg_cmp (Int64.ofInt l1) (Int64.ofInt 1))]) (pc := 9) (dec_at lsk_203 (k := 6) rfl) rfl ?_
    refine u_ifT (pc := 10) (tgt := 17) (dec_at lsk_203 (k := 7) rfl) rfl (cl_gt (rl_ri g1) (by decide)) (fun e3 => ?_) (fun e3 => ?_)
    · have h := ifT e3 h
      refine u_ld (v := iV 0) (pc := 17) (dec_at lsk_203 (k := 10) rfl) rfl ?_
      refine u_rZ (pc := 18) (dec_at lsk_203 (k := 11) rfl) rfl (by decide) ?_
      refine u_ifF (pc := 7) (tgt := 12) (dec_at lsk_264 (k := 5) rfl) rfl (c0_ne (by decide)) (fun _ => ?_) (fun e => absurd e (by decide))
      refine u_ld (v := iV (-1)) (pc := 10) (dec_at lsk_264 (k := 6) rfl) rfl ?_
      exact u_rI (pc := 11) (dec_at lsk_264 (k := 7) rfl) rfl h
    · have h := ifF e3 h
      refine u_ld (v := iV 1) (pc := 13) (dec_at lsk_203 (k := 8) rfl) rfl ?_
      refine u_goto (pc := 14) (tgt := 18) (dec_at lsk_203 (k := 9) rfl) rfl ?_
      refine u_rZ (pc := 18) (dec_at lsk_203 (k := 11) rfl) rfl (by decide) ?_
      refine u_ifF (pc := 7) (tgt := 12) (dec_at lsk_264 (k := 5) rfl) rfl (c0_ne (by decide)) (fun e => absurd e (by decide)) (fun _ => ?_)
      refine u_ld (v := iV 0) (pc := 12) (dec_at lsk_264 (k := 8) rfl) rfl ?_
      refine u_sto (lv' := [.ref 271, iV l1, iV 0, .retAddr 0]) (pc := 13) (dec_at lsk_264 (k := 9) rfl) rfl ?_
      refine u_ld (v := iV 0) (pc := 14) (dec_at lsk_264 (k := 10) rfl) rfl ?_
      refine u_sto (lv' := [.ref 271, iV l1, iV 0, iV 0]) (pc := 15) (dec_at lsk_264 (k := 11) rfl) rfl ?_
      exact h
theorem k_264_16 {d : Nat} {Q : Int → uS → Prop} {u : uS} {l1 l2 l3 : Int} (h : (rI l3) ∧ ((rI (u.1 271 3)) ∧ (if l3 < u.1 271 3 then ((0 ≤ l3) ∧ ((l3 < 40) ∧ ((0 ≤ ((400 * l1) + (10 * l2)) + (u.1 273 l3)) ∧ ((((400 * l1) + (10 * l2)) + (u.1 273 l3) < 40000) ∧ (K_264 (d + 1) 16 [.ref 271, iV l1, iV (u.1 302 (((400 * l1) + (10 * l2)) + (u.1 273 l3))), iV (l3 + 1)] [] u Q))))) else ((0 ≤ (40 * l1) + l2) ∧ (((40 * l1) + l2 < 4000) ∧ ((rI (u.1 303 ((40 * l1) + l2))) ∧ (if u.1 303 ((40 * l1) + l2) = 0 then (Q 0 u) else (Q 1 u)))))))) : K_264 (d + 1) 16 [.ref 271, iV l1, iV l2, iV l3] [] u Q := by
  unfold K_264
  refine u_ld (v := iV l3) (pc := 16) (dec_at lsk_264 (k := 12) rfl) rfl ?_
  refine u_ld (v := .ref 271) (pc := 17) (dec_at lsk_264 (k := 13) rfl) rfl ?_
  refine u_gI (z := 3) (pc := 18) (dec_at lsk_264 (k := 14) rfl) f_12_262 sx_271 rfl rfl ?_
  have g1 := h.1
  have h := h.2
  have g2 := h.1
  have h := h.2
  refine u_icF (pc := 21) (tgt := 53) (dec_at lsk_264 (k := 15) rfl) rfl (ci_ge g1 g2) (fun e3 => ?_) (fun e3 => ?_)
  · have h := ifT e3 h
    refine u_ld (v := .ref 271) (pc := 24) (dec_at lsk_264 (k := 16) rfl) rfl ?_
    refine u_gS (o := 31) (p := 302) (pc := 25) (dec_at lsk_264 (k := 17) rfl) f_12_103 sx_271 rfl rfl ?_
    refine u_c (x := 400) (pc := 28) (dec_at lsk_264 (k := 18) rfl) rfl (by decide) ?_
    refine u_ld (v := iV l1) (pc := 31) (dec_at lsk_264 (k := 19) rfl) rfl ?_
    refine u_imul (pc := 32) (dec_at lsk_264 (k := 20) rfl) ?_
    refine u_c (x := 10) (pc := 33) (dec_at lsk_264 (k := 21) rfl) rfl (by decide) ?_
    refine u_ld (v := iV l2) (pc := 35) (dec_at lsk_264 (k := 22) rfl) rfl ?_
    refine u_imul (pc := 36) (dec_at lsk_264 (k := 23) rfl) ?_
    refine u_iadd (pc := 37) (dec_at lsk_264 (k := 24) rfl) ?_
    refine u_ld (v := .ref 271) (pc := 38) (dec_at lsk_264 (k := 25) rfl) rfl ?_
    refine u_gS (o := 2) (p := 273) (pc := 39) (dec_at lsk_264 (k := 26) rfl) f_12_13 sx_271 rfl rfl ?_
    refine u_ld (v := iV l3) (pc := 42) (dec_at lsk_264 (k := 27) rfl) rfl ?_
    have g4 := h.1
    have h := h.2
    have g5 := h.1
    have h := h.2
    refine u_iald (pc := 43) (dec_at lsk_264 (k := 28) rfl) sx_273 g4 g5 ?_
    refine u_iadd (pc := 44) (dec_at lsk_264 (k := 29) rfl) ?_
    have g6 := h.1
    have h := h.2
    have g7 := h.1
    have h := h.2
    refine u_iald (pc := 45) (dec_at lsk_264 (k := 30) rfl) sx_302 g6 g7 ?_
    refine u_sto (lv' := [.ref 271, iV l1, iV (u.1 302 (((400 * l1) + (10 * l2)) + (u.1 273 l3))), iV l3]) (pc := 46) (dec_at lsk_264 (k := 31) rfl) rfl ?_
    refine u_inc (lv' := [.ref 271, iV l1, iV (u.1 302 (((400 * l1) + (10 * l2)) + (u.1 273 l3))), iV (l3 + 1)]) (pc := 47) (dec_at lsk_264 (k := 32) rfl) rfl (by decide) rfl ?_
    refine u_goto (pc := 50) (tgt := 16) (dec_at lsk_264 (k := 33) rfl) rfl ?_
    exact h
  · have h := ifF e3 h
    refine u_ld (v := .ref 271) (pc := 53) (dec_at lsk_264 (k := 34) rfl) rfl ?_
    refine u_gS (o := 32) (p := 303) (pc := 54) (dec_at lsk_264 (k := 35) rfl) f_12_106 sx_271 rfl rfl ?_
    refine u_c (x := 40) (pc := 57) (dec_at lsk_264 (k := 36) rfl) rfl (by decide) ?_
    refine u_ld (v := iV l1) (pc := 59) (dec_at lsk_264 (k := 37) rfl) rfl ?_
    refine u_imul (pc := 60) (dec_at lsk_264 (k := 38) rfl) ?_
    refine u_ld (v := iV l2) (pc := 61) (dec_at lsk_264 (k := 39) rfl) rfl ?_
    refine u_iadd (pc := 62) (dec_at lsk_264 (k := 40) rfl) ?_
    have g8 := h.1
    have h := h.2
    have g9 := h.1
    have h := h.2
    refine u_zald (pc := 63) (dec_at lsk_264 (k := 41) rfl) sx_303 g8 g9 ?_
    have g10 := h.1
    have h := h.2
    refine u_ifT (pc := 64) (tgt := 71) (dec_at lsk_264 (k := 42) rfl) rfl (c0_eq g10) (fun e11 => ?_) (fun e11 => ?_)
    · have h := ifT e11 h
      refine u_ld (v := iV 0) (pc := 71) (dec_at lsk_264 (k := 45) rfl) rfl ?_
      exact u_rI (pc := 72) (dec_at lsk_264 (k := 46) rfl) rfl h
    · have h := ifF e11 h
      refine u_ld (v := iV 1) (pc := 67) (dec_at lsk_264 (k := 43) rfl) rfl ?_
      refine u_goto (pc := 68) (tgt := 72) (dec_at lsk_264 (k := 44) rfl) rfl ?_
      exact u_rI (pc := 72) (dec_at lsk_264 (k := 46) rfl) rfl h
/-- method 265 -/
def K_265 (d pc : Nat) (lv : ev_L) (st : List Value) (u : uS) (Q : Int → uS → Prop) : Prop := okU d 12 8 false (some .int) prog_14_method_68_code (qI Q) pc lv st u
theorem e_265 {d : Nat} {Q : Int → uS → Prop} {u : uS} {l1 : Int} (h : (rI l1) ∧ (if l1 < 0 then (Q (-1) u) else (if 3 < l1 then (Q (-1) u) else (K_265 (d + 1) 16 [.ref 271, iV l1, iV 0, .retAddr 0, .retAddr 0, .retAddr 0, .retAddr 0, .retAddr 0] [] u Q)))) : cI (d + 2) 265 [.ref 271, iV l1] u Q := by
  refine u_of me_265 (Nat.le_of_ble_eq_true rfl) ?_
  refine u_ld (v := iV l1) (pc := 0) (dec_at lsk_265 (k := 0) rfl) rfl ?_
  have g1 := h.1
  have h := h.2
  refine u_i2l (pc := 1) (dec_at lsk_265 (k := 1) rfl) g1 ?_
  refine u_cl (x := 0) (pc := 2) (dec_at lsk_265 (k := 2) rfl) rfl (by decide) ?_
  refine u_ldc2 (x := 3) (pc := 3) (dec_at lsk_265 (k := 3) rfl) con_12_478 (by decide) ?_
  refine u_csI (As := [lV l1, lV 0, lV 3]) (st2 := []) (pc := 6) (dec_at lsk_265 (k := 4) rfl) m_12_250 (Or.inl rfl) rfl (Nat.le_of_ble_eq_true rfl) ?_ (fun _ _ h_ => h_)
  refine u_of me_203 (Nat.le_of_ble_eq_true rfl) ?_
  refine u_ld (v := lV l1) (pc := 0) (dec_at lsk_203 (k := 0) rfl) rfl ?_
  refine u_ld (v := lV 0) (pc := 1) (dec_at lsk_203 (k := 1) rfl) rfl ?_
  refine u_st (st' := [.int (lg_cmp (Int64.ofInt l1) (Int64.ofInt 0))]) (pc := 2) (dec_at lsk_203 (k := 2) rfl) rfl ?_
  refine u_ifT (pc := 3) (tgt := 17) (dec_at lsk_203 (k := 3) rfl) rfl (cl_lt (rl_ri g1) (by decide)) (fun e2 => ?_) (fun e2 => ?_)
  · have h := ifT e2 h
    refine u_ld (v := iV 0) (pc := 17) (dec_at lsk_203 (k := 10) rfl) rfl ?_
    refine u_rZ (pc := 18) (dec_at lsk_203 (k := 11) rfl) rfl (by decide) ?_
    refine u_ifF (pc := 9) (tgt := 14) (dec_at lsk_265 (k := 5) rfl) rfl (c0_ne (by decide)) (fun _ => ?_) (fun e => absurd e (by decide))
    refine u_ld (v := iV (-1)) (pc := 12) (dec_at lsk_265 (k := 6) rfl) rfl ?_
    exact u_rI (pc := 13) (dec_at lsk_265 (k := 7) rfl) rfl h
  · have h := ifF e2 h
    refine u_ld (v := lV l1) (pc := 6) (dec_at lsk_203 (k := 4) rfl) rfl ?_
    refine u_ld (v := lV 3) (pc := 7) (dec_at lsk_203 (k := 5) rfl) rfl ?_
    refine u_st (st' := [.int (lg_cmp (Int64.ofInt l1) (Int64.ofInt 3))]) (pc := 9) (dec_at lsk_203 (k := 6) rfl) rfl ?_
    refine u_ifT (pc := 10) (tgt := 17) (dec_at lsk_203 (k := 7) rfl) rfl (cl_gt (rl_ri g1) (by decide)) (fun e3 => ?_) (fun e3 => ?_)
    · have h := ifT e3 h
      refine u_ld (v := iV 0) (pc := 17) (dec_at lsk_203 (k := 10) rfl) rfl ?_
      refine u_rZ (pc := 18) (dec_at lsk_203 (k := 11) rfl) rfl (by decide) ?_
      refine u_ifF (pc := 9) (tgt := 14) (dec_at lsk_265 (k := 5) rfl) rfl (c0_ne (by decide)) (fun _ => ?_) (fun e => absurd e (by decide))
      refine u_ld (v := iV (-1)) (pc := 12) (dec_at lsk_265 (k := 6) rfl) rfl ?_
      exact u_rI (pc := 13) (dec_at lsk_265 (k := 7) rfl) rfl h
    · have h := ifF e3 h
      refine u_ld (v := iV 1) (pc := 13) (dec_at lsk_203 (k := 8) rfl) rfl ?_
      refine u_goto (pc := 14) (tgt := 18) (dec_at lsk_203 (k := 9) rfl) rfl ?_
      refine u_rZ (pc := 18) (dec_at lsk_203 (k := 11) rfl) rfl (by decide) ?_
      refine u_ifF (pc := 9) (tgt := 14) (dec_at lsk_265 (k := 5) rfl) rfl (c0_ne (by decide)) (fun e => absurd e (by decide)) (fun _ => ?_)
      refine u_ld (v := iV 0) (pc := 14) (dec_at lsk_265 (k := 8) rfl) rfl ?_
      refine u_sto (lv' := [.ref 271, iV l1, iV 0, .retAddr 0, .retAddr 0, .retAddr 0, .retAddr 0, .retAddr 0]) (pc := 15) (dec_at lsk_265 (k := 9) rfl) rfl ?_
      exact h
theorem k_265_16 {d : Nat} {Q : Int → uS → Prop} {u : uS} {l1 l2 : Int} (h : (rI l2) ∧ (if l2 < 1600 then ((0 ≤ l2) ∧ (∀ u4 : uS, u4 = wr u 321 l2 (-9) → (K_265 (d + 1) 16 [.ref 271, iV l1, iV (l2 + 1), .retAddr 0, .retAddr 0, .retAddr 0, .retAddr 0, .retAddr 0] [] u4 Q))) else (∀ u6 : uS, u6 = wr u 323 0 0 → (∀ u8 : uS, u8 = wr u6 321 0 (-1) → (K_265 (d + 1) 55 [.ref 271, iV l1, iV 1, iV 0, .retAddr 0, .retAddr 0, .retAddr 0, .retAddr 0] [] u8 Q))))) : K_265 (d + 1) 16 [.ref 271, iV l1, iV l2, .retAddr 0, .retAddr 0, .retAddr 0, .retAddr 0, .retAddr 0] [] u Q := by
  unfold K_265
  refine u_ld (v := iV l2) (pc := 16) (dec_at lsk_265 (k := 10) rfl) rfl ?_
  refine u_c (x := 1600) (pc := 17) (dec_at lsk_265 (k := 11) rfl) rfl (by decide) ?_
  have g1 := h.1
  have h := h.2
  refine u_icF (pc := 20) (tgt := 37) (dec_at lsk_265 (k := 12) rfl) rfl (ci_ge g1 (by decide)) (fun e2 => ?_) (fun e2 => ?_)
  · have h := ifT e2 h
    refine u_ld (v := .ref 271) (pc := 23) (dec_at lsk_265 (k := 13) rfl) rfl ?_
    refine u_gS (o := 50) (p := 321) (pc := 24) (dec_at lsk_265 (k := 14) rfl) f_12_160 sx_271 rfl rfl ?_
    refine u_ld (v := iV l2) (pc := 27) (dec_at lsk_265 (k := 15) rfl) rfl ?_
    refine u_c (x := (-9)) (pc := 28) (dec_at lsk_265 (k := 16) rfl) rfl (by decide) ?_
    have g3 := h.1
    have h := h.2
    refine u_iast (pc := 30) (dec_at lsk_265 (k := 17) rfl) sx_321 g3 e2 (fun u4 e5 => ?_)
    have h := h u4 e5
    refine u_inc (lv' := [.ref 271, iV l1, iV (l2 + 1), .retAddr 0, .retAddr 0, .retAddr 0, .retAddr 0, .retAddr 0]) (pc := 31) (dec_at lsk_265 (k := 18) rfl) rfl (by decide) rfl ?_
    refine u_goto (pc := 34) (tgt := 16) (dec_at lsk_265 (k := 19) rfl) rfl ?_
    exact h
  · have h := ifF e2 h
    refine u_ld (v := iV 1) (pc := 37) (dec_at lsk_265 (k := 20) rfl) rfl ?_
    refine u_sto (lv' := [.ref 271, iV l1, iV 1, .retAddr 0, .retAddr 0, .retAddr 0, .retAddr 0, .retAddr 0]) (pc := 38) (dec_at lsk_265 (k := 21) rfl) rfl ?_
    refine u_ld (v := .ref 271) (pc := 39) (dec_at lsk_265 (k := 22) rfl) rfl ?_
    refine u_gS (o := 52) (p := 323) (pc := 40) (dec_at lsk_265 (k := 23) rfl) f_12_166 sx_271 rfl rfl ?_
    refine u_ld (v := iV 0) (pc := 43) (dec_at lsk_265 (k := 24) rfl) rfl ?_
    refine u_ld (v := iV 0) (pc := 44) (dec_at lsk_265 (k := 25) rfl) rfl ?_
    refine u_iast (pc := 45) (dec_at lsk_265 (k := 26) rfl) sx_323 (by decide) (by decide) (fun u6 e7 => ?_)
    have h := h u6 e7
    refine u_ld (v := .ref 271) (pc := 46) (dec_at lsk_265 (k := 27) rfl) rfl ?_
    refine u_gS (o := 50) (p := 321) (pc := 47) (dec_at lsk_265 (k := 28) rfl) f_12_160 sx_271 rfl rfl ?_
    refine u_ld (v := iV 0) (pc := 50) (dec_at lsk_265 (k := 29) rfl) rfl ?_
    refine u_ld (v := iV (-1)) (pc := 51) (dec_at lsk_265 (k := 30) rfl) rfl ?_
    refine u_iast (pc := 52) (dec_at lsk_265 (k := 31) rfl) sx_321 (by decide) (by decide) (fun u8 e9 => ?_)
    have h := h u8 e9
    refine u_ld (v := iV 0) (pc := 53) (dec_at lsk_265 (k := 32) rfl) rfl ?_
    refine u_sto (lv' := [.ref 271, iV l1, iV 1, iV 0, .retAddr 0, .retAddr 0, .retAddr 0, .retAddr 0]) (pc := 54) (dec_at lsk_265 (k := 33) rfl) rfl ?_
    exact h
theorem k_265_55 {d : Nat} {Q : Int → uS → Prop} {u : uS} {l1 l2 l3 : Int} (h : (rI l3) ∧ ((rI l2) ∧ (if l3 < l2 then ((0 ≤ l3) ∧ ((l3 < 1600) ∧ ((rI (u.1 323 l3)) ∧ ((0 ≤ (u.1 323 l3).tdiv 40) ∧ (((u.1 323 l3).tdiv 40 < 4000) ∧ ((0 ≤ 40 + ((u.1 323 l3).tmod 40)) ∧ ((40 + ((u.1 323 l3).tmod 40) < 4000) ∧ (cI (d + 1) 266 [iV l1, iV (u.1 303 ((u.1 323 l3).tdiv 40)), iV (u.1 303 (40 + ((u.1 323 l3).tmod 40)))] u (fun r12 u11 => (rI r12) ∧ (if r12 = 0 then (K_265 (d + 1) 120 [.ref 271, iV l1, iV l2, iV l3, iV ((u.1 323 l3).tdiv 40), iV ((u.1 323 l3).tmod 40), iV 0, .retAddr 0] [] u11 Q) else (cI (d + 1) 267 [.ref 271, iV (u11.1 323 l3)] u11 (fun r16 u15 => Q r16 u15)))))))))))) else (Q (-2) u)))) : K_265 (d + 1) 55 [.ref 271, iV l1, iV l2, iV l3, .retAddr 0, .retAddr 0, .retAddr 0, .retAddr 0] [] u Q := by
  unfold K_265
  refine u_ld (v := iV l3) (pc := 55) (dec_at lsk_265 (k := 34) rfl) rfl ?_
  refine u_ld (v := iV l2) (pc := 56) (dec_at lsk_265 (k := 35) rfl) rfl ?_
  have g1 := h.1
  have h := h.2
  have g2 := h.1
  have h := h.2
  refine u_icF (pc := 57) (tgt := 220) (dec_at lsk_265 (k := 36) rfl) rfl (ci_ge g1 g2) (fun e3 => ?_) (fun e3 => ?_)
  · have h := ifT e3 h
    refine u_ld (v := .ref 271) (pc := 60) (dec_at lsk_265 (k := 37) rfl) rfl ?_
    refine u_gS (o := 52) (p := 323) (pc := 61) (dec_at lsk_265 (k := 38) rfl) f_12_166 sx_271 rfl rfl ?_
    refine u_ld (v := iV l3) (pc := 64) (dec_at lsk_265 (k := 39) rfl) rfl ?_
    have g4 := h.1
    have h := h.2
    have g5 := h.1
    have h := h.2
    refine u_iald (pc := 65) (dec_at lsk_265 (k := 40) rfl) sx_323 g4 g5 ?_
    refine u_c (x := 40) (pc := 66) (dec_at lsk_265 (k := 41) rfl) rfl (by decide) ?_
    have g6 := h.1
    have h := h.2
    refine u_idiv (pc := 68) (dec_at lsk_265 (k := 42) rfl) g6 (by decide) (by decide) ?_
    refine u_sto (lv' := [.ref 271, iV l1, iV l2, iV l3, iV ((u.1 323 l3).tdiv 40), .retAddr 0, .retAddr 0, .retAddr 0]) (pc := 69) (dec_at lsk_265 (k := 43) rfl) rfl ?_
    refine u_ld (v := .ref 271) (pc := 71) (dec_at lsk_265 (k := 44) rfl) rfl ?_
    refine u_gS (o := 52) (p := 323) (pc := 72) (dec_at lsk_265 (k := 45) rfl) f_12_166 sx_271 rfl rfl ?_
    refine u_ld (v := iV l3) (pc := 75) (dec_at lsk_265 (k := 46) rfl) rfl ?_
    refine u_iald (pc := 76) (dec_at lsk_265 (k := 47) rfl) sx_323 g4 g5 ?_
    refine u_c (x := 40) (pc := 77) (dec_at lsk_265 (k := 48) rfl) rfl (by decide) ?_
    refine u_irem (pc := 79) (dec_at lsk_265 (k := 49) rfl) g6 (by decide) (by decide) ?_
    refine u_sto (lv' := [.ref 271, iV l1, iV l2, iV l3, iV ((u.1 323 l3).tdiv 40), iV ((u.1 323 l3).tmod 40), .retAddr 0, .retAddr 0]) (pc := 80) (dec_at lsk_265 (k := 50) rfl) rfl ?_
    refine u_ld (v := iV l1) (pc := 82) (dec_at lsk_265 (k := 51) rfl) rfl ?_
    refine u_ld (v := .ref 271) (pc := 83) (dec_at lsk_265 (k := 52) rfl) rfl ?_
    refine u_gS (o := 32) (p := 303) (pc := 84) (dec_at lsk_265 (k := 53) rfl) f_12_106 sx_271 rfl rfl ?_
    refine u_ld (v := iV ((u.1 323 l3).tdiv 40)) (pc := 87) (dec_at lsk_265 (k := 54) rfl) rfl ?_
    have g7 := h.1
    have h := h.2
    have g8 := h.1
    have h := h.2
    refine u_zald (pc := 89) (dec_at lsk_265 (k := 55) rfl) sx_303 g7 g8 ?_
    refine u_ld (v := .ref 271) (pc := 90) (dec_at lsk_265 (k := 56) rfl) rfl ?_
    refine u_gS (o := 32) (p := 303) (pc := 91) (dec_at lsk_265 (k := 57) rfl) f_12_106 sx_271 rfl rfl ?_
    refine u_c (x := 40) (pc := 94) (dec_at lsk_265 (k := 58) rfl) rfl (by decide) ?_
    refine u_ld (v := iV ((u.1 323 l3).tmod 40)) (pc := 96) (dec_at lsk_265 (k := 59) rfl) rfl ?_
    refine u_iadd (pc := 98) (dec_at lsk_265 (k := 60) rfl) ?_
    have g9 := h.1
    have h := h.2
    have g10 := h.1
    have h := h.2
    refine u_zald (pc := 99) (dec_at lsk_265 (k := 61) rfl) sx_303 g9 g10 ?_
    refine u_csI (As := [iV l1, iV (u.1 303 ((u.1 323 l3).tdiv 40)), iV (u.1 303 (40 + ((u.1 323 l3).tmod 40)))]) (st2 := []) (pc := 100) (dec_at lsk_265 (k := 62) rfl) m_12_480 (Or.inl rfl) rfl (Nat.le_of_ble_eq_true rfl) h (fun r12 u11 h => ?_)
    have g13 := h.1
    have h := h.2
    refine u_ifT (pc := 103) (tgt := 117) (dec_at lsk_265 (k := 63) rfl) rfl (c0_eq g13) (fun e14 => ?_) (fun e14 => ?_)
    · have h := ifT e14 h
      refine u_ld (v := iV 0) (pc := 117) (dec_at lsk_265 (k := 71) rfl) rfl ?_
      refine u_sto (lv' := [.ref 271, iV l1, iV l2, iV l3, iV ((u.1 323 l3).tdiv 40), iV ((u.1 323 l3).tmod 40), iV 0, .retAddr 0]) (pc := 118) (dec_at lsk_265 (k := 72) rfl) rfl ?_
      exact h
    · have h := ifF e14 h
      refine u_ld (v := .ref 271) (pc := 106) (dec_at lsk_265 (k := 64) rfl) rfl ?_
      refine u_ld (v := .ref 271) (pc := 107) (dec_at lsk_265 (k := 65) rfl) rfl ?_
      refine u_gS (o := 52) (p := 323) (pc := 108) (dec_at lsk_265 (k := 66) rfl) f_12_166 sx_271 rfl rfl ?_
      refine u_ld (v := iV l3) (pc := 111) (dec_at lsk_265 (k := 67) rfl) rfl ?_
      refine u_iald (pc := 112) (dec_at lsk_265 (k := 68) rfl) sx_323 g4 g5 ?_
      refine u_cvI (As := [iV (u11.1 323 l3)]) (rb := 271) (st2 := []) (pc := 113) (dec_at lsk_265 (k := 69) rfl) m_12_484 (Or.inl rfl) rfl (Nat.le_of_ble_eq_true rfl) sx_271 me_267 rfl h (fun r16 u15 h => ?_)
      exact u_rI (pc := 116) (dec_at lsk_265 (k := 70) rfl) rfl h
  · have h := ifF e3 h
    refine u_c (x := (-2)) (pc := 220) (dec_at lsk_265 (k := 127) rfl) rfl (by decide) ?_
    exact u_rI (pc := 222) (dec_at lsk_265 (k := 128) rfl) rfl h
theorem k_265_120 {d : Nat} {Q : Int → uS → Prop} {u : uS} {l1 l2 l3 l4 l5 l6 : Int} (h : (rI l6) ∧ (if l6 < 10 then ((0 ≤ (10 * l4) + l6) ∧ (((10 * l4) + l6 < 40000) ∧ ((0 ≤ (400 + (10 * l5)) + l6) ∧ (((400 + (10 * l5)) + l6 < 40000) ∧ ((0 ≤ (40 * (u.1 302 ((10 * l4) + l6))) + (u.1 302 ((400 + (10 * l5)) + l6))) ∧ (((40 * (u.1 302 ((10 * l4) + l6))) + (u.1 302 ((400 + (10 * l5)) + l6)) < 1600) ∧ ((rI (u.1 321 ((40 * (u.1 302 ((10 * l4) + l6))) + (u.1 302 ((400 + (10 * l5)) + l6))))) ∧ (if u.1 321 ((40 * (u.1 302 ((10 * l4) + l6))) + (u.1 302 ((400 + (10 * l5)) + l6))) = (-9) then ((0 ≤ l3) ∧ ((l3 < 1600) ∧ (∀ u13 : uS, u13 = wr u 321 ((40 * (u.1 302 ((10 * l4) + l6))) + (u.1 302 ((400 + (10 * l5)) + l6))) (u.1 323 l3) → (∀ u15 : uS, u15 = wr u13 322 ((40 * (u.1 302 ((10 * l4) + l6))) + (u.1 302 ((400 + (10 * l5)) + l6))) l6 → ((0 ≤ l2) ∧ ((l2 < 1600) ∧ (∀ u19 : uS, u19 = wr u15 323 l2 ((40 * (u.1 302 ((10 * l4) + l6))) + (u.1 302 ((400 + (10 * l5)) + l6))) → (K_265 (d + 1) 120 [.ref 271, iV l1, iV (l2 + 1), iV l3, iV l4, iV l5, iV (l6 + 1), .retAddr 0] [] u19 Q)))))))) else (K_265 (d + 1) 120 [.ref 271, iV l1, iV l2, iV l3, iV l4, iV l5, iV (l6 + 1), .retAddr 0] [] u Q))))))))) else (K_265 (d + 1) 55 [.ref 271, iV l1, iV l2, iV (l3 + 1), .retAddr 0, .retAddr 0, .retAddr 0, .retAddr 0] [] u Q))) : K_265 (d + 1) 120 [.ref 271, iV l1, iV l2, iV l3, iV l4, iV l5, iV l6, .retAddr 0] [] u Q := by
  unfold K_265
  refine u_ld (v := iV l6) (pc := 120) (dec_at lsk_265 (k := 73) rfl) rfl ?_
  refine u_c (x := 10) (pc := 122) (dec_at lsk_265 (k := 74) rfl) rfl (by decide) ?_
  have g1 := h.1
  have h := h.2
  refine u_icF (pc := 124) (tgt := 214) (dec_at lsk_265 (k := 75) rfl) rfl (ci_ge g1 (by decide)) (fun e2 => ?_) (fun e2 => ?_)
  · have h := ifT e2 h
    refine u_c (x := 40) (pc := 127) (dec_at lsk_265 (k := 76) rfl) rfl (by decide) ?_
    refine u_ld (v := .ref 271) (pc := 129) (dec_at lsk_265 (k := 77) rfl) rfl ?_
    refine u_gS (o := 31) (p := 302) (pc := 130) (dec_at lsk_265 (k := 78) rfl) f_12_103 sx_271 rfl rfl ?_
    refine u_c (x := 10) (pc := 133) (dec_at lsk_265 (k := 79) rfl) rfl (by decide) ?_
    refine u_ld (v := iV l4) (pc := 135) (dec_at lsk_265 (k := 80) rfl) rfl ?_
    refine u_imul (pc := 137) (dec_at lsk_265 (k := 81) rfl) ?_
    refine u_ld (v := iV l6) (pc := 138) (dec_at lsk_265 (k := 82) rfl) rfl ?_
    refine u_iadd (pc := 140) (dec_at lsk_265 (k := 83) rfl) ?_
    have g3 := h.1
    have h := h.2
    have g4 := h.1
    have h := h.2
    refine u_iald (pc := 141) (dec_at lsk_265 (k := 84) rfl) sx_302 g3 g4 ?_
    refine u_imul (pc := 142) (dec_at lsk_265 (k := 85) rfl) ?_
    refine u_ld (v := .ref 271) (pc := 143) (dec_at lsk_265 (k := 86) rfl) rfl ?_
    refine u_gS (o := 31) (p := 302) (pc := 144) (dec_at lsk_265 (k := 87) rfl) f_12_103 sx_271 rfl rfl ?_
    refine u_c (x := 400) (pc := 147) (dec_at lsk_265 (k := 88) rfl) rfl (by decide) ?_
    refine u_c (x := 10) (pc := 150) (dec_at lsk_265 (k := 89) rfl) rfl (by decide) ?_
    refine u_ld (v := iV l5) (pc := 152) (dec_at lsk_265 (k := 90) rfl) rfl ?_
    refine u_imul (pc := 154) (dec_at lsk_265 (k := 91) rfl) ?_
    refine u_iadd (pc := 155) (dec_at lsk_265 (k := 92) rfl) ?_
    refine u_ld (v := iV l6) (pc := 156) (dec_at lsk_265 (k := 93) rfl) rfl ?_
    refine u_iadd (pc := 158) (dec_at lsk_265 (k := 94) rfl) ?_
    have g5 := h.1
    have h := h.2
    have g6 := h.1
    have h := h.2
    refine u_iald (pc := 159) (dec_at lsk_265 (k := 95) rfl) sx_302 g5 g6 ?_
    refine u_iadd (pc := 160) (dec_at lsk_265 (k := 96) rfl) ?_
    refine u_sto (lv' := [.ref 271, iV l1, iV l2, iV l3, iV l4, iV l5, iV l6, iV ((40 * (u.1 302 ((10 * l4) + l6))) + (u.1 302 ((400 + (10 * l5)) + l6)))]) (pc := 161) (dec_at lsk_265 (k := 97) rfl) rfl ?_
    refine u_ld (v := .ref 271) (pc := 163) (dec_at lsk_265 (k := 98) rfl) rfl ?_
    refine u_gS (o := 50) (p := 321) (pc := 164) (dec_at lsk_265 (k := 99) rfl) f_12_160 sx_271 rfl rfl ?_
    refine u_ld (v := iV ((40 * (u.1 302 ((10 * l4) + l6))) + (u.1 302 ((400 + (10 * l5)) + l6)))) (pc := 167) (dec_at lsk_265 (k := 100) rfl) rfl ?_
    have g7 := h.1
    have h := h.2
    have g8 := h.1
    have h := h.2
    refine u_iald (pc := 169) (dec_at lsk_265 (k := 101) rfl) sx_321 g7 g8 ?_
    refine u_c (x := (-9)) (pc := 170) (dec_at lsk_265 (k := 102) rfl) rfl (by decide) ?_
    have g9 := h.1
    have h := h.2
    refine u_icF (pc := 172) (tgt := 208) (dec_at lsk_265 (k := 103) rfl) rfl (ci_ne g9 (by decide)) (fun e10 => ?_) (fun e10 => ?_)
    · have h := ifT e10 h
      refine u_ld (v := .ref 271) (pc := 175) (dec_at lsk_265 (k := 104) rfl) rfl ?_
      refine u_gS (o := 50) (p := 321) (pc := 176) (dec_at lsk_265 (k := 105) rfl) f_12_160 sx_271 rfl rfl ?_
      refine u_ld (v := iV ((40 * (u.1 302 ((10 * l4) + l6))) + (u.1 302 ((400 + (10 * l5)) + l6)))) (pc := 179) (dec_at lsk_265 (k := 106) rfl) rfl ?_
      refine u_ld (v := .ref 271) (pc := 181) (dec_at lsk_265 (k := 107) rfl) rfl ?_
      refine u_gS (o := 52) (p := 323) (pc := 182) (dec_at lsk_265 (k := 108) rfl) f_12_166 sx_271 rfl rfl ?_
      refine u_ld (v := iV l3) (pc := 185) (dec_at lsk_265 (k := 109) rfl) rfl ?_
      have g11 := h.1
      have h := h.2
      have g12 := h.1
      have h := h.2
      refine u_iald (pc := 186) (dec_at lsk_265 (k := 110) rfl) sx_323 g11 g12 ?_
      refine u_iast (pc := 187) (dec_at lsk_265 (k := 111) rfl) sx_321 g7 g8 (fun u13 e14 => ?_)
      have h := h u13 e14
      refine u_ld (v := .ref 271) (pc := 188) (dec_at lsk_265 (k := 112) rfl) rfl ?_
      refine u_gS (o := 51) (p := 322) (pc := 189) (dec_at lsk_265 (k := 113) rfl) f_12_163 sx_271 rfl rfl ?_
      refine u_ld (v := iV ((40 * (u.1 302 ((10 * l4) + l6))) + (u.1 302 ((400 + (10 * l5)) + l6)))) (pc := 192) (dec_at lsk_265 (k := 114) rfl) rfl ?_
      refine u_ld (v := iV l6) (pc := 194) (dec_at lsk_265 (k := 115) rfl) rfl ?_
      refine u_iast (pc := 196) (dec_at lsk_265 (k := 116) rfl) sx_322 g7 g8 (fun u15 e16 => ?_)
      have h := h u15 e16
      refine u_ld (v := .ref 271) (pc := 197) (dec_at lsk_265 (k := 117) rfl) rfl ?_
      refine u_gS (o := 52) (p := 323) (pc := 198) (dec_at lsk_265 (k := 118) rfl) f_12_166 sx_271 rfl rfl ?_
      refine u_ld (v := iV l2) (pc := 201) (dec_at lsk_265 (k := 119) rfl) rfl ?_
      refine u_ld (v := iV ((40 * (u.1 302 ((10 * l4) + l6))) + (u.1 302 ((400 + (10 * l5)) + l6)))) (pc := 202) (dec_at lsk_265 (k := 120) rfl) rfl ?_
      have g17 := h.1
      have h := h.2
      have g18 := h.1
      have h := h.2
      refine u_iast (pc := 204) (dec_at lsk_265 (k := 121) rfl) sx_323 g17 g18 (fun u19 e20 => ?_)
      have h := h u19 e20
      refine u_inc (lv' := [.ref 271, iV l1, iV (l2 + 1), iV l3, iV l4, iV l5, iV l6, iV ((40 * (u.1 302 ((10 * l4) + l6))) + (u.1 302 ((400 + (10 * l5)) + l6)))]) (pc := 205) (dec_at lsk_265 (k := 122) rfl) rfl (by decide) rfl ?_
      refine u_inc (lv' := [.ref 271, iV l1, iV (l2 + 1), iV l3, iV l4, iV l5, iV (l6 + 1), iV ((40 * (u.1 302 ((10 * l4) + l6))) + (u.1 302 ((400 + (10 * l5)) + l6)))]) (pc := 208) (dec_at lsk_265 (k := 123) rfl) rfl (by decide) rfl ?_
      refine u_goto (pc := 211) (tgt := 120) (dec_at lsk_265 (k := 124) rfl) rfl ?_
      exact u_weak (sbK (sbK (sbK (sbK (sbK (sbK (sbK (sbD sb0)))))))) h
    · have h := ifF e10 h
      refine u_inc (lv' := [.ref 271, iV l1, iV l2, iV l3, iV l4, iV l5, iV (l6 + 1), iV ((40 * (u.1 302 ((10 * l4) + l6))) + (u.1 302 ((400 + (10 * l5)) + l6)))]) (pc := 208) (dec_at lsk_265 (k := 123) rfl) rfl (by decide) rfl ?_
      refine u_goto (pc := 211) (tgt := 120) (dec_at lsk_265 (k := 124) rfl) rfl ?_
      exact u_weak (sbK (sbK (sbK (sbK (sbK (sbK (sbK (sbD sb0)))))))) h
  · have h := ifF e2 h
    refine u_inc (lv' := [.ref 271, iV l1, iV l2, iV (l3 + 1), iV l4, iV l5, iV l6, .retAddr 0]) (pc := 214) (dec_at lsk_265 (k := 125) rfl) rfl (by decide) rfl ?_
    refine u_goto (pc := 217) (tgt := 55) (dec_at lsk_265 (k := 126) rfl) rfl ?_
    exact u_weak (sbK (sbK (sbK (sbK (sbD (sbD (sbD (sbK sb0)))))))) h
/-- method 266 -/
def K_266 (d pc : Nat) (lv : ev_L) (st : List Value) (u : uS) (Q : Int → uS → Prop) : Prop := okU d 12 3 false (some .boolean) prog_14_method_67_code (qI Q) pc lv st u
theorem e_266 {d : Nat} {Q : Int → uS → Prop} {u : uS} {l0 l1 l2 : Int} (h : (rI l0) ∧ (if l0 = 0 then ((rI l1) ∧ (if l1 = 0 then (Q 0 u) else ((rI l2) ∧ (if l2 = 0 then (Q 1 u) else (Q 0 u))))) else (if l0 = 1 then ((rI l2) ∧ (if l2 = 0 then (Q 0 u) else ((rI l1) ∧ (if l1 = 0 then (Q 1 u) else (Q 0 u))))) else (if l0 = 2 then ((rI l1) ∧ (if l1 = 0 then (Q 0 u) else ((rI l2) ∧ (if l2 = 0 then (Q 0 u) else (Q 1 u))))) else ((rI l1) ∧ (if l1 = 0 then ((rI l2) ∧ (if l2 = 0 then (Q 1 u) else (Q 0 u))) else (Q 0 u))))))) : cI (d + 1) 266 [iV l0, iV l1, iV l2] u Q := by
  refine u_of me_266 (Nat.le_of_ble_eq_true rfl) ?_
  refine u_ld (v := iV l0) (pc := 0) (dec_at lsk_266 (k := 0) rfl) rfl ?_
  have g1 := h.1
  have h := h.2
  refine u_ifF (pc := 1) (tgt := 20) (dec_at lsk_266 (k := 1) rfl) rfl (c0_ne g1) (fun e2 => ?_) (fun e2 => ?_)
  · have h := ifT e2 h
    refine u_ld (v := iV l1) (pc := 4) (dec_at lsk_266 (k := 2) rfl) rfl ?_
    have g3 := h.1
    have h := h.2
    refine u_ifT (pc := 5) (tgt := 16) (dec_at lsk_266 (k := 3) rfl) rfl (c0_eq g3) (fun e4 => ?_) (fun e4 => ?_)
    · have h := ifT e4 h
      refine u_ld (v := iV 0) (pc := 16) (dec_at lsk_266 (k := 8) rfl) rfl ?_
      refine u_goto (pc := 17) (tgt := 75) (dec_at lsk_266 (k := 9) rfl) rfl ?_
      exact u_rZ (pc := 75) (dec_at lsk_266 (k := 39) rfl) rfl (by decide) h
    · have h := ifF e4 h
      refine u_ld (v := iV l2) (pc := 8) (dec_at lsk_266 (k := 4) rfl) rfl ?_
      have g5 := h.1
      have h := h.2
      refine u_ifF (pc := 9) (tgt := 16) (dec_at lsk_266 (k := 5) rfl) rfl (c0_ne g5) (fun e6 => ?_) (fun e6 => ?_)
      · have h := ifT e6 h
        refine u_ld (v := iV 1) (pc := 12) (dec_at lsk_266 (k := 6) rfl) rfl ?_
        refine u_goto (pc := 13) (tgt := 75) (dec_at lsk_266 (k := 7) rfl) rfl ?_
        exact u_rZ (pc := 75) (dec_at lsk_266 (k := 39) rfl) rfl (by decide) h
      · have h := ifF e6 h
        refine u_ld (v := iV 0) (pc := 16) (dec_at lsk_266 (k := 8) rfl) rfl ?_
        refine u_goto (pc := 17) (tgt := 75) (dec_at lsk_266 (k := 9) rfl) rfl ?_
        exact u_rZ (pc := 75) (dec_at lsk_266 (k := 39) rfl) rfl (by decide) h
  · have h := ifF e2 h
    refine u_ld (v := iV l0) (pc := 20) (dec_at lsk_266 (k := 10) rfl) rfl ?_
    refine u_ld (v := iV 1) (pc := 21) (dec_at lsk_266 (k := 11) rfl) rfl ?_
    refine u_icF (pc := 22) (tgt := 41) (dec_at lsk_266 (k := 12) rfl) rfl (ci_ne g1 (by decide)) (fun e7 => ?_) (fun e7 => ?_)
    · have h := ifT e7 h
      refine u_ld (v := iV l2) (pc := 25) (dec_at lsk_266 (k := 13) rfl) rfl ?_
      have g8 := h.1
      have h := h.2
      refine u_ifT (pc := 26) (tgt := 37) (dec_at lsk_266 (k := 14) rfl) rfl (c0_eq g8) (fun e9 => ?_) (fun e9 => ?_)
      · have h := ifT e9 h
        refine u_ld (v := iV 0) (pc := 37) (dec_at lsk_266 (k := 19) rfl) rfl ?_
        refine u_goto (pc := 38) (tgt := 75) (dec_at lsk_266 (k := 20) rfl) rfl ?_
        exact u_rZ (pc := 75) (dec_at lsk_266 (k := 39) rfl) rfl (by decide) h
      · have h := ifF e9 h
        refine u_ld (v := iV l1) (pc := 29) (dec_at lsk_266 (k := 15) rfl) rfl ?_
        have g10 := h.1
        have h := h.2
        refine u_ifF (pc := 30) (tgt := 37) (dec_at lsk_266 (k := 16) rfl) rfl (c0_ne g10) (fun e11 => ?_) (fun e11 => ?_)
        · have h := ifT e11 h
          refine u_ld (v := iV 1) (pc := 33) (dec_at lsk_266 (k := 17) rfl) rfl ?_
          refine u_goto (pc := 34) (tgt := 75) (dec_at lsk_266 (k := 18) rfl) rfl ?_
          exact u_rZ (pc := 75) (dec_at lsk_266 (k := 39) rfl) rfl (by decide) h
        · have h := ifF e11 h
          refine u_ld (v := iV 0) (pc := 37) (dec_at lsk_266 (k := 19) rfl) rfl ?_
          refine u_goto (pc := 38) (tgt := 75) (dec_at lsk_266 (k := 20) rfl) rfl ?_
          exact u_rZ (pc := 75) (dec_at lsk_266 (k := 39) rfl) rfl (by decide) h
    · have h := ifF e7 h
      refine u_ld (v := iV l0) (pc := 41) (dec_at lsk_266 (k := 21) rfl) rfl ?_
      refine u_ld (v := iV 2) (pc := 42) (dec_at lsk_266 (k := 22) rfl) rfl ?_
      refine u_icF (pc := 43) (tgt := 62) (dec_at lsk_266 (k := 23) rfl) rfl (ci_ne g1 (by decide)) (fun e12 => ?_) (fun e12 => ?_)
      · have h := ifT e12 h
        refine u_ld (v := iV l1) (pc := 46) (dec_at lsk_266 (k := 24) rfl) rfl ?_
        have g13 := h.1
        have h := h.2
        refine u_ifT (pc := 47) (tgt := 58) (dec_at lsk_266 (k := 25) rfl) rfl (c0_eq g13) (fun e14 => ?_) (fun e14 => ?_)
        · have h := ifT e14 h
          refine u_ld (v := iV 0) (pc := 58) (dec_at lsk_266 (k := 30) rfl) rfl ?_
          refine u_goto (pc := 59) (tgt := 75) (dec_at lsk_266 (k := 31) rfl) rfl ?_
          exact u_rZ (pc := 75) (dec_at lsk_266 (k := 39) rfl) rfl (by decide) h
        · have h := ifF e14 h
          refine u_ld (v := iV l2) (pc := 50) (dec_at lsk_266 (k := 26) rfl) rfl ?_
          have g15 := h.1
          have h := h.2
          refine u_ifT (pc := 51) (tgt := 58) (dec_at lsk_266 (k := 27) rfl) rfl (c0_eq g15) (fun e16 => ?_) (fun e16 => ?_)
          · have h := ifT e16 h
            refine u_ld (v := iV 0) (pc := 58) (dec_at lsk_266 (k := 30) rfl) rfl ?_
            refine u_goto (pc := 59) (tgt := 75) (dec_at lsk_266 (k := 31) rfl) rfl ?_
            exact u_rZ (pc := 75) (dec_at lsk_266 (k := 39) rfl) rfl (by decide) h
          · have h := ifF e16 h
            refine u_ld (v := iV 1) (pc := 54) (dec_at lsk_266 (k := 28) rfl) rfl ?_
            refine u_goto (pc := 55) (tgt := 75) (dec_at lsk_266 (k := 29) rfl) rfl ?_
            exact u_rZ (pc := 75) (dec_at lsk_266 (k := 39) rfl) rfl (by decide) h
      · have h := ifF e12 h
        refine u_ld (v := iV l1) (pc := 62) (dec_at lsk_266 (k := 32) rfl) rfl ?_
        have g17 := h.1
        have h := h.2
        refine u_ifF (pc := 63) (tgt := 74) (dec_at lsk_266 (k := 33) rfl) rfl (c0_ne g17) (fun e18 => ?_) (fun e18 => ?_)
        · have h := ifT e18 h
          refine u_ld (v := iV l2) (pc := 66) (dec_at lsk_266 (k := 34) rfl) rfl ?_
          have g19 := h.1
          have h := h.2
          refine u_ifF (pc := 67) (tgt := 74) (dec_at lsk_266 (k := 35) rfl) rfl (c0_ne g19) (fun e20 => ?_) (fun e20 => ?_)
          · have h := ifT e20 h
            refine u_ld (v := iV 1) (pc := 70) (dec_at lsk_266 (k := 36) rfl) rfl ?_
            refine u_goto (pc := 71) (tgt := 75) (dec_at lsk_266 (k := 37) rfl) rfl ?_
            exact u_rZ (pc := 75) (dec_at lsk_266 (k := 39) rfl) rfl (by decide) h
          · have h := ifF e20 h
            refine u_ld (v := iV 0) (pc := 74) (dec_at lsk_266 (k := 38) rfl) rfl ?_
            exact u_rZ (pc := 75) (dec_at lsk_266 (k := 39) rfl) rfl (by decide) h
        · have h := ifF e18 h
          refine u_ld (v := iV 0) (pc := 74) (dec_at lsk_266 (k := 38) rfl) rfl ?_
          exact u_rZ (pc := 75) (dec_at lsk_266 (k := 39) rfl) rfl (by decide) h
/-- method 267 -/
def K_267 (d pc : Nat) (lv : ev_L) (st : List Value) (u : uS) (Q : Int → uS → Prop) : Prop := okU d 12 5 false (some .int) prog_14_method_69_code (qI Q) pc lv st u
theorem e_267 {d : Nat} {Q : Int → uS → Prop} {u : uS} {l1 : Int} (h : K_267 d 4 [.ref 271, iV l1, iV 0, iV l1, .retAddr 0] [] u Q) : cI (d + 1) 267 [.ref 271, iV l1] u Q := by
  refine u_of me_267 (Nat.le_of_ble_eq_true rfl) ?_
  refine u_ld (v := iV 0) (pc := 0) (dec_at lsk_267 (k := 0) rfl) rfl ?_
  refine u_sto (lv' := [.ref 271, iV l1, iV 0, .retAddr 0, .retAddr 0]) (pc := 1) (dec_at lsk_267 (k := 1) rfl) rfl ?_
  refine u_ld (v := iV l1) (pc := 2) (dec_at lsk_267 (k := 2) rfl) rfl ?_
  refine u_sto (lv' := [.ref 271, iV l1, iV 0, iV l1, .retAddr 0]) (pc := 3) (dec_at lsk_267 (k := 3) rfl) rfl ?_
  exact h
theorem k_267_4 {d : Nat} {Q : Int → uS → Prop} {u : uS} {l1 l2 l3 : Int} (h : (0 ≤ l3) ∧ ((l3 < 1600) ∧ ((rI (u.1 321 l3)) ∧ (if u.1 321 l3 = (-1) then ((rI l2) ∧ (if 40 < l2 then (Q (-3) u) else (∀ u7 : uS, u7 = wr u 271 3 l2 → (K_267 d 46 [.ref 271, .retAddr 0, iV l2, iV l2, iV l1] [] u7 Q)))) else (K_267 d 4 [.ref 271, iV l1, iV (l2 + 1), iV (u.1 321 l3), .retAddr 0] [] u Q))))) : K_267 d 4 [.ref 271, iV l1, iV l2, iV l3, .retAddr 0] [] u Q := by
  unfold K_267
  refine u_ld (v := .ref 271) (pc := 4) (dec_at lsk_267 (k := 4) rfl) rfl ?_
  refine u_gS (o := 50) (p := 321) (pc := 5) (dec_at lsk_267 (k := 5) rfl) f_12_160 sx_271 rfl rfl ?_
  refine u_ld (v := iV l3) (pc := 8) (dec_at lsk_267 (k := 6) rfl) rfl ?_
  have g1 := h.1
  have h := h.2
  have g2 := h.1
  have h := h.2
  refine u_iald (pc := 9) (dec_at lsk_267 (k := 7) rfl) sx_321 g1 g2 ?_
  refine u_ld (v := iV (-1)) (pc := 10) (dec_at lsk_267 (k := 8) rfl) rfl ?_
  have g3 := h.1
  have h := h.2
  refine u_icT (pc := 11) (tgt := 27) (dec_at lsk_267 (k := 9) rfl) rfl (ci_eq g3 (by decide)) (fun e4 => ?_) (fun e4 => ?_)
  · have h := ifT e4 h
    refine u_ld (v := iV l2) (pc := 27) (dec_at lsk_267 (k := 17) rfl) rfl ?_
    refine u_c (x := 40) (pc := 28) (dec_at lsk_267 (k := 18) rfl) rfl (by decide) ?_
    have g5 := h.1
    have h := h.2
    refine u_icF (pc := 30) (tgt := 36) (dec_at lsk_267 (k := 19) rfl) rfl (ci_le g5 (by decide)) (fun e6 => ?_) (fun e6 => ?_)
    · have h := ifT e6 h
      refine u_c (x := (-3)) (pc := 33) (dec_at lsk_267 (k := 20) rfl) rfl (by decide) ?_
      exact u_rI (pc := 35) (dec_at lsk_267 (k := 21) rfl) rfl h
    · have h := ifF e6 h
      refine u_ld (v := .ref 271) (pc := 36) (dec_at lsk_267 (k := 22) rfl) rfl ?_
      refine u_ld (v := iV l2) (pc := 37) (dec_at lsk_267 (k := 23) rfl) rfl ?_
      refine u_pI (z := 3) (pc := 38) (dec_at lsk_267 (k := 24) rfl) f_12_262 sx_271 rfl rfl rfl rfl (fun u7 e8 => ?_)
      have h := h u7 e8
      refine u_ld (v := iV l2) (pc := 41) (dec_at lsk_267 (k := 25) rfl) rfl ?_
      refine u_sto (lv' := [.ref 271, iV l1, iV l2, iV l2, .retAddr 0]) (pc := 42) (dec_at lsk_267 (k := 26) rfl) rfl ?_
      refine u_ld (v := iV l1) (pc := 43) (dec_at lsk_267 (k := 27) rfl) rfl ?_
      refine u_sto (lv' := [.ref 271, iV l1, iV l2, iV l2, iV l1]) (pc := 44) (dec_at lsk_267 (k := 28) rfl) rfl ?_
      exact u_weak (sbK (sbD (sbK (sbK (sbK sb0))))) h
  · have h := ifF e4 h
    refine u_inc (lv' := [.ref 271, iV l1, iV (l2 + 1), iV l3, .retAddr 0]) (pc := 14) (dec_at lsk_267 (k := 10) rfl) rfl (by decide) rfl ?_
    refine u_ld (v := .ref 271) (pc := 17) (dec_at lsk_267 (k := 11) rfl) rfl ?_
    refine u_gS (o := 50) (p := 321) (pc := 18) (dec_at lsk_267 (k := 12) rfl) f_12_160 sx_271 rfl rfl ?_
    refine u_ld (v := iV l3) (pc := 21) (dec_at lsk_267 (k := 13) rfl) rfl ?_
    refine u_iald (pc := 22) (dec_at lsk_267 (k := 14) rfl) sx_321 g1 g2 ?_
    refine u_sto (lv' := [.ref 271, iV l1, iV (l2 + 1), iV (u.1 321 l3), .retAddr 0]) (pc := 23) (dec_at lsk_267 (k := 15) rfl) rfl ?_
    refine u_goto (pc := 24) (tgt := 4) (dec_at lsk_267 (k := 16) rfl) rfl ?_
    exact h
theorem k_267_46 {d : Nat} {Q : Int → uS → Prop} {u : uS} {l2 l3 l4 : Int} (h : (0 ≤ l4) ∧ ((l4 < 1600) ∧ ((rI (u.1 321 l4)) ∧ (if u.1 321 l4 = (-1) then (Q l2 u) else ((0 ≤ l3 + (-1)) ∧ ((l3 + (-1) < 40) ∧ (∀ u7 : uS, u7 = wr u 273 (l3 + (-1)) (u.1 322 l4) → (K_267 d 46 [.ref 271, .retAddr 0, iV l2, iV (l3 + (-1)), iV (u7.1 321 l4)] [] u7 Q)))))))) : K_267 d 46 [.ref 271, .retAddr 0, iV l2, iV l3, iV l4] [] u Q := by
  unfold K_267
  refine u_ld (v := .ref 271) (pc := 46) (dec_at lsk_267 (k := 29) rfl) rfl ?_
  refine u_gS (o := 50) (p := 321) (pc := 47) (dec_at lsk_267 (k := 30) rfl) f_12_160 sx_271 rfl rfl ?_
  refine u_ld (v := iV l4) (pc := 50) (dec_at lsk_267 (k := 31) rfl) rfl ?_
  have g1 := h.1
  have h := h.2
  have g2 := h.1
  have h := h.2
  refine u_iald (pc := 52) (dec_at lsk_267 (k := 32) rfl) sx_321 g1 g2 ?_
  refine u_ld (v := iV (-1)) (pc := 53) (dec_at lsk_267 (k := 33) rfl) rfl ?_
  have g3 := h.1
  have h := h.2
  refine u_icT (pc := 54) (tgt := 85) (dec_at lsk_267 (k := 34) rfl) rfl (ci_eq g3 (by decide)) (fun e4 => ?_) (fun e4 => ?_)
  · have h := ifT e4 h
    refine u_ld (v := iV l2) (pc := 85) (dec_at lsk_267 (k := 50) rfl) rfl ?_
    exact u_rI (pc := 86) (dec_at lsk_267 (k := 51) rfl) rfl h
  · have h := ifF e4 h
    refine u_inc (lv' := [.ref 271, .retAddr 0, iV l2, iV (l3 + (-1)), iV l4]) (pc := 57) (dec_at lsk_267 (k := 35) rfl) rfl (by decide) rfl ?_
    refine u_ld (v := .ref 271) (pc := 60) (dec_at lsk_267 (k := 36) rfl) rfl ?_
    refine u_gS (o := 2) (p := 273) (pc := 61) (dec_at lsk_267 (k := 37) rfl) f_12_13 sx_271 rfl rfl ?_
    refine u_ld (v := iV (l3 + (-1))) (pc := 64) (dec_at lsk_267 (k := 38) rfl) rfl ?_
    refine u_ld (v := .ref 271) (pc := 65) (dec_at lsk_267 (k := 39) rfl) rfl ?_
    refine u_gS (o := 51) (p := 322) (pc := 66) (dec_at lsk_267 (k := 40) rfl) f_12_163 sx_271 rfl rfl ?_
    refine u_ld (v := iV l4) (pc := 69) (dec_at lsk_267 (k := 41) rfl) rfl ?_
    refine u_iald (pc := 71) (dec_at lsk_267 (k := 42) rfl) sx_322 g1 g2 ?_
    have g5 := h.1
    have h := h.2
    have g6 := h.1
    have h := h.2
    refine u_iast (pc := 72) (dec_at lsk_267 (k := 43) rfl) sx_273 g5 g6 (fun u7 e8 => ?_)
    have h := h u7 e8
    refine u_ld (v := .ref 271) (pc := 73) (dec_at lsk_267 (k := 44) rfl) rfl ?_
    refine u_gS (o := 50) (p := 321) (pc := 74) (dec_at lsk_267 (k := 45) rfl) f_12_160 sx_271 rfl rfl ?_
    refine u_ld (v := iV l4) (pc := 77) (dec_at lsk_267 (k := 46) rfl) rfl ?_
    refine u_iald (pc := 79) (dec_at lsk_267 (k := 47) rfl) sx_321 g1 g2 ?_
    refine u_sto (lv' := [.ref 271, .retAddr 0, iV l2, iV (l3 + (-1)), iV (u7.1 321 l4)]) (pc := 80) (dec_at lsk_267 (k := 48) rfl) rfl ?_
    refine u_goto (pc := 82) (tgt := 46) (dec_at lsk_267 (k := 49) rfl) rfl ?_
    exact h
/-- method 268 -/
def K_268 (d pc : Nat) (lv : ev_L) (st : List Value) (u : uS) (Q : Int → uS → Prop) : Prop := okU d 12 6 false (some .int) prog_14_method_82_code (qI Q) pc lv st u
theorem e_268 {d : Nat} {Q : Int → uS → Prop} {u : uS} {l1 : Int} (h : (rI (u.1 271 11)) ∧ (if u.1 271 11 = 0 then (Q (-1) u) else ((rI l1) ∧ (if l1 < 0 then (Q (-1) u) else (if 1 < l1 then (Q (-1) u) else (cV (d + 1) 269 [.ref 271, iV l1] u (fun u6 => K_268 (d + 1) 29 [.ref 271, iV l1, iV (-2), iV 0, .retAddr 0, .retAddr 0] [] u6 Q))))))) : cI (d + 2) 268 [.ref 271, iV l1] u Q := by
  refine u_of me_268 (Nat.le_of_ble_eq_true rfl) ?_
  refine u_ld (v := .ref 271) (pc := 0) (dec_at lsk_268 (k := 0) rfl) rfl ?_
  refine u_gZ (z := 11) (pc := 1) (dec_at lsk_268 (k := 1) rfl) f_12_299 sx_271 rfl rfl ?_
  have g1 := h.1
  have h := h.2
  refine u_ifT (pc := 4) (tgt := 17) (dec_at lsk_268 (k := 2) rfl) rfl (c0_eq g1) (fun e2 => ?_) (fun e2 => ?_)
  · have h := ifT e2 h
    refine u_ld (v := iV (-1)) (pc := 17) (dec_at lsk_268 (k := 9) rfl) rfl ?_
    exact u_rI (pc := 18) (dec_at lsk_268 (k := 10) rfl) rfl h
  · have h := ifF e2 h
    refine u_ld (v := iV l1) (pc := 7) (dec_at lsk_268 (k := 3) rfl) rfl ?_
    have g3 := h.1
    have h := h.2
    refine u_i2l (pc := 8) (dec_at lsk_268 (k := 4) rfl) g3 ?_
    refine u_cl (x := 0) (pc := 9) (dec_at lsk_268 (k := 5) rfl) rfl (by decide) ?_
    refine u_cl (x := 1) (pc := 10) (dec_at lsk_268 (k := 6) rfl) rfl (by decide) ?_
    refine u_csI (As := [lV l1, lV 0, lV 1]) (st2 := []) (pc := 11) (dec_at lsk_268 (k := 7) rfl) m_12_250 (Or.inl rfl) rfl (Nat.le_of_ble_eq_true rfl) ?_ (fun _ _ h_ => h_)
    refine u_of me_203 (Nat.le_of_ble_eq_true rfl) ?_
    refine u_ld (v := lV l1) (pc := 0) (dec_at lsk_203 (k := 0) rfl) rfl ?_
    refine u_ld (v := lV 0) (pc := 1) (dec_at lsk_203 (k := 1) rfl) rfl ?_
    refine u_st (st' := [.int (lg_cmp (Int64.ofInt l1) (Int64.ofInt 0))]) (pc := 2) (dec_at lsk_203 (k := 2) rfl) rfl ?_
    refine u_ifT (pc := 3) (tgt := 17) (dec_at lsk_203 (k := 3) rfl) rfl (cl_lt (rl_ri g3) (by decide)) (fun e4 => ?_) (fun e4 => ?_)
    · have h := ifT e4 h
      refine u_ld (v := iV 0) (pc := 17) (dec_at lsk_203 (k := 10) rfl) rfl ?_
      refine u_rZ (pc := 18) (dec_at lsk_203 (k := 11) rfl) rfl (by decide) ?_
      refine u_ifF (pc := 14) (tgt := 19) (dec_at lsk_268 (k := 8) rfl) rfl (c0_ne (by decide)) (fun _ => ?_) (fun e => absurd e (by decide))
      refine u_ld (v := iV (-1)) (pc := 17) (dec_at lsk_268 (k := 9) rfl) rfl ?_
      exact u_rI (pc := 18) (dec_at lsk_268 (k := 10) rfl) rfl h
    · have h := ifF e4 h
      refine u_ld (v := lV l1) (pc := 6) (dec_at lsk_203 (k := 4) rfl) rfl ?_
      refine u_ld (v := lV 1) (pc := 7) (dec_at lsk_203 (k := 5) rfl) rfl ?_
      refine u_st (st' := [.int (lg_cmp (Int64.ofInt l1) (Int64.ofInt 1))]) (pc := 9) (dec_at lsk_203 (k := 6) rfl) rfl ?_
      refine u_ifT (pc := 10) (tgt := 17) (dec_at lsk_203 (k := 7) rfl) rfl (cl_gt (rl_ri g3) (by decide)) (fun e5 => ?_) (fun e5 => ?_)
      · have h := ifT e5 h
        refine u_ld (v := iV 0) (pc := 17) (dec_at lsk_203 (k := 10) rfl) rfl ?_
        refine u_rZ (pc := 18) (dec_at lsk_203 (k := 11) rfl) rfl (by decide) ?_
        refine u_ifF (pc := 14) (tgt := 19) (dec_at lsk_268 (k := 8) rfl) rfl (c0_ne (by decide)) (fun _ => ?_) (fun e => absurd e (by decide))
        refine u_ld (v := iV (-1)) (pc := 17) (dec_at lsk_268 (k := 9) rfl) rfl ?_
        exact u_rI (pc := 18) (dec_at lsk_268 (k := 10) rfl) rfl h
      · have h := ifF e5 h
        refine u_ld (v := iV 1) (pc := 13) (dec_at lsk_203 (k := 8) rfl) rfl ?_
        refine u_goto (pc := 14) (tgt := 18) (dec_at lsk_203 (k := 9) rfl) rfl ?_
        refine u_rZ (pc := 18) (dec_at lsk_203 (k := 11) rfl) rfl (by decide) ?_
        refine u_ifF (pc := 14) (tgt := 19) (dec_at lsk_268 (k := 8) rfl) rfl (c0_ne (by decide)) (fun e => absurd e (by decide)) (fun _ => ?_)
        refine u_ld (v := .ref 271) (pc := 19) (dec_at lsk_268 (k := 11) rfl) rfl ?_
        refine u_ld (v := iV l1) (pc := 20) (dec_at lsk_268 (k := 12) rfl) rfl ?_
        refine u_cvV (As := [iV l1]) (rb := 271) (st2 := []) (pc := 21) (dec_at lsk_268 (k := 13) rfl) m_12_526 (Or.inl rfl) rfl (Nat.le_of_ble_eq_true rfl) sx_271 me_269 rfl h (fun u6 h => ?_)
        refine u_c (x := (-2)) (pc := 24) (dec_at lsk_268 (k := 14) rfl) rfl (by decide) ?_
        refine u_sto (lv' := [.ref 271, iV l1, iV (-2), .retAddr 0, .retAddr 0, .retAddr 0]) (pc := 26) (dec_at lsk_268 (k := 15) rfl) rfl ?_
        refine u_ld (v := iV 0) (pc := 27) (dec_at lsk_268 (k := 16) rfl) rfl ?_
        refine u_sto (lv' := [.ref 271, iV l1, iV (-2), iV 0, .retAddr 0, .retAddr 0]) (pc := 28) (dec_at lsk_268 (k := 17) rfl) rfl ?_
        exact h
theorem k_268_29 {d : Nat} {Q : Int → uS → Prop} {u : uS} {l1 l2 l3 : Int} (h : (0 ≤ l1) ∧ ((l1 < 100) ∧ ((rI l3) ∧ ((rI (u.1 301 l1)) ∧ (if l3 < u.1 301 l1 then ((0 ≤ (40 * l1) + l3) ∧ (((40 * l1) + l3 < 4000) ∧ ((rI (u.1 303 ((40 * l1) + l3))) ∧ (if u.1 303 ((40 * l1) + l3) = 0 then ((0 ≤ (((10 * 0) + 0) * 40) + l3) ∧ (((((10 * 0) + 0) * 40) + l3 < 16000) ∧ ((rL (u.1 324 ((((10 * 0) + 0) * 40) + l3))) ∧ (if u.1 324 ((((10 * 0) + 0) * 40) + l3) = 6000000000000000000 then (K_268 (d + 1) 80 [.ref 271, iV l1, iV l2, iV l3, iV ((((10 * 0) + 0) * 40) + l3), .retAddr 0] [iV 0] u Q) else (K_268 (d + 1) 80 [.ref 271, iV l1, iV l2, iV l3, iV ((((10 * 0) + 0) * 40) + l3), .retAddr 0] [iV 1] u Q))))) else (K_268 (d + 1) 80 [.ref 271, iV l1, iV l2, iV l3, iV ((((10 * 0) + 0) * 40) + l3), .retAddr 0] [iV 0] u Q))))) else ((rI l2) ∧ (if l2 = (-2) then (∀ u16 : uS, u16 = wr u 271 73 0 → (Q 1 u16)) else (∀ u19 : uS, u19 = wr u 271 73 1 → (cV (d + 1) 276 [.ref 271, iV l1, iV l2] u19 (fun u22 => ∀ u23 : uS, u23 = wr u22 271 74 l2 → (∀ u25 : uS, u25 = wr u23 271 75 (l2.tmod 40) → (K_268 (d + 1) 178 [.ref 271, .retAddr 0, .retAddr 0, iV 0, .retAddr 0, .retAddr 0] [] u25 Q)))))))))))) : K_268 (d + 1) 29 [.ref 271, iV l1, iV l2, iV l3, .retAddr 0, .retAddr 0] [] u Q := by
  unfold K_268
  refine u_ld (v := iV l3) (pc := 29) (dec_at lsk_268 (k := 18) rfl) rfl ?_
  refine u_ld (v := .ref 271) (pc := 30) (dec_at lsk_268 (k := 19) rfl) rfl ?_
  refine u_gS (o := 30) (p := 301) (pc := 31) (dec_at lsk_268 (k := 20) rfl) f_12_99 sx_271 rfl rfl ?_
  refine u_ld (v := iV l1) (pc := 34) (dec_at lsk_268 (k := 21) rfl) rfl ?_
  have g1 := h.1
  have h := h.2
  have g2 := h.1
  have h := h.2
  refine u_iald (pc := 35) (dec_at lsk_268 (k := 22) rfl) sx_301 g1 g2 ?_
  have g3 := h.1
  have h := h.2
  have g4 := h.1
  have h := h.2
  refine u_icF (pc := 36) (tgt := 134) (dec_at lsk_268 (k := 23) rfl) rfl (ci_ge g3 g4) (fun e5 => ?_) (fun e5 => ?_)
  · have h := ifT e5 h
    refine u_ld (v := iV 0) (pc := 39) (dec_at lsk_268 (k := 24) rfl) rfl ?_
    refine u_ld (v := iV 0) (pc := 40) (dec_at lsk_268 (k := 25) rfl) rfl ?_
    refine u_ld (v := iV l3) (pc := 41) (dec_at lsk_268 (k := 26) rfl) rfl ?_
    refine u_csI (As := [iV 0, iV 0, iV l3]) (st2 := []) (pc := 42) (dec_at lsk_268 (k := 27) rfl) m_12_494 (Or.inl rfl) rfl (Nat.le_of_ble_eq_true rfl) ?_ (fun _ _ h_ => h_)
    refine u_of me_274 (Nat.le_of_ble_eq_true rfl) ?_
    refine u_c (x := 10) (pc := 0) (dec_at lsk_274 (k := 0) rfl) rfl (by decide) ?_
    refine u_ld (v := iV 0) (pc := 2) (dec_at lsk_274 (k := 1) rfl) rfl ?_
    refine u_imul (pc := 3) (dec_at lsk_274 (k := 2) rfl) ?_
    refine u_ld (v := iV 0) (pc := 4) (dec_at lsk_274 (k := 3) rfl) rfl ?_
    refine u_iadd (pc := 5) (dec_at lsk_274 (k := 4) rfl) ?_
    refine u_c (x := 40) (pc := 6) (dec_at lsk_274 (k := 5) rfl) rfl (by decide) ?_
    refine u_imul (pc := 8) (dec_at lsk_274 (k := 6) rfl) ?_
    refine u_ld (v := iV l3) (pc := 9) (dec_at lsk_274 (k := 7) rfl) rfl ?_
    refine u_iadd (pc := 10) (dec_at lsk_274 (k := 8) rfl) ?_
    refine u_rI (pc := 11) (dec_at lsk_274 (k := 9) rfl) rfl ?_
    refine u_sto (lv' := [.ref 271, iV l1, iV l2, iV l3, iV ((((10 * 0) + 0) * 40) + l3), .retAddr 0]) (pc := 45) (dec_at lsk_268 (k := 28) rfl) rfl ?_
    refine u_ld (v := .ref 271) (pc := 47) (dec_at lsk_268 (k := 29) rfl) rfl ?_
    refine u_gS (o := 32) (p := 303) (pc := 48) (dec_at lsk_268 (k := 30) rfl) f_12_106 sx_271 rfl rfl ?_
    refine u_c (x := 40) (pc := 51) (dec_at lsk_268 (k := 31) rfl) rfl (by decide) ?_
    refine u_ld (v := iV l1) (pc := 53) (dec_at lsk_268 (k := 32) rfl) rfl ?_
    refine u_imul (pc := 54) (dec_at lsk_268 (k := 33) rfl) ?_
    refine u_ld (v := iV l3) (pc := 55) (dec_at lsk_268 (k := 34) rfl) rfl ?_
    refine u_iadd (pc := 56) (dec_at lsk_268 (k := 35) rfl) ?_
    have g6 := h.1
    have h := h.2
    have g7 := h.1
    have h := h.2
    refine u_zald (pc := 57) (dec_at lsk_268 (k := 36) rfl) sx_303 g6 g7 ?_
    have g8 := h.1
    have h := h.2
    refine u_ifF (pc := 58) (tgt := 79) (dec_at lsk_268 (k := 37) rfl) rfl (c0_ne g8) (fun e9 => ?_) (fun e9 => ?_)
    · have h := ifT e9 h
      refine u_ld (v := .ref 271) (pc := 61) (dec_at lsk_268 (k := 38) rfl) rfl ?_
      refine u_gS (o := 53) (p := 324) (pc := 62) (dec_at lsk_268 (k := 39) rfl) f_12_169 sx_271 rfl rfl ?_
      refine u_ld (v := iV ((((10 * 0) + 0) * 40) + l3)) (pc := 65) (dec_at lsk_268 (k := 40) rfl) rfl ?_
      have g10 := h.1
      have h := h.2
      have g11 := h.1
      have h := h.2
      refine u_lald (pc := 67) (dec_at lsk_268 (k := 41) rfl) sx_324 g10 g11 ?_
      refine u_ldc2 (x := 6000000000000000000) (pc := 68) (dec_at lsk_268 (k := 42) rfl) con_12_487 (by decide) ?_
      refine u_st (st' := [.int (lg_cmp (Int64.ofInt (u.1 324 ((((10 * 0) + 0) * 40) + l3))) (Int64.ofInt 6000000000000000000))]) (pc := 71) (dec_at lsk_268 (k := 43) rfl) rfl ?_
      have g12 := h.1
      have h := h.2
      refine u_ifT (pc := 72) (tgt := 79) (dec_at lsk_268 (k := 44) rfl) rfl (cl_eq g12 (by decide)) (fun e13 => ?_) (fun e13 => ?_)
      · have h := ifT e13 h
        refine u_ld (v := iV 0) (pc := 79) (dec_at lsk_268 (k := 47) rfl) rfl ?_
        exact h
      · have h := ifF e13 h
        refine u_ld (v := iV 1) (pc := 75) (dec_at lsk_268 (k := 45) rfl) rfl ?_
        refine u_goto (pc := 76) (tgt := 80) (dec_at lsk_268 (k := 46) rfl) rfl ?_
        exact h
    · have h := ifF e9 h
      refine u_ld (v := iV 0) (pc := 79) (dec_at lsk_268 (k := 47) rfl) rfl ?_
      exact h
  · have h := ifF e5 h
    refine u_ld (v := .ref 271) (pc := 134) (dec_at lsk_268 (k := 76) rfl) rfl ?_
    refine u_ld (v := iV l2) (pc := 135) (dec_at lsk_268 (k := 77) rfl) rfl ?_
    refine u_c (x := (-2)) (pc := 136) (dec_at lsk_268 (k := 78) rfl) rfl (by decide) ?_
    have g14 := h.1
    have h := h.2
    refine u_icT (pc := 138) (tgt := 145) (dec_at lsk_268 (k := 79) rfl) rfl (ci_eq g14 (by decide)) (fun e15 => ?_) (fun e15 => ?_)
    · have h := ifT e15 h
      refine u_ld (v := iV 0) (pc := 145) (dec_at lsk_268 (k := 82) rfl) rfl ?_
      refine u_pZ (z := 73) (pc := 146) (dec_at lsk_268 (k := 83) rfl) f_12_529 sx_271 rfl rfl rfl rfl (by decide) (fun u16 e17 => ?_)
      have h := h u16 e17
      refine u_ld (v := iV l2) (pc := 149) (dec_at lsk_268 (k := 84) rfl) rfl ?_
      refine u_c (x := (-2)) (pc := 150) (dec_at lsk_268 (k := 85) rfl) rfl (by decide) ?_
      refine u_icF (pc := 152) (tgt := 157) (dec_at lsk_268 (k := 86) rfl) rfl (ci_ne g14 (by decide)) (fun _ => ?_) (fun e18 => absurd e15 e18)
      refine u_ld (v := iV 1) (pc := 155) (dec_at lsk_268 (k := 87) rfl) rfl ?_
      exact u_rI (pc := 156) (dec_at lsk_268 (k := 88) rfl) rfl h
    · have h := ifF e15 h
      refine u_ld (v := iV 1) (pc := 141) (dec_at lsk_268 (k := 80) rfl) rfl ?_
      refine u_goto (pc := 142) (tgt := 146) (dec_at lsk_268 (k := 81) rfl) rfl ?_
      refine u_pZ (z := 73) (pc := 146) (dec_at lsk_268 (k := 83) rfl) f_12_529 sx_271 rfl rfl rfl rfl (by decide) (fun u19 e20 => ?_)
      have h := h u19 e20
      refine u_ld (v := iV l2) (pc := 149) (dec_at lsk_268 (k := 84) rfl) rfl ?_
      refine u_c (x := (-2)) (pc := 150) (dec_at lsk_268 (k := 85) rfl) rfl (by decide) ?_
      refine u_icF (pc := 152) (tgt := 157) (dec_at lsk_268 (k := 86) rfl) rfl (ci_ne g14 (by decide)) (fun e21 => absurd e21 e15) (fun _ => ?_)
      refine u_ld (v := .ref 271) (pc := 157) (dec_at lsk_268 (k := 89) rfl) rfl ?_
      refine u_ld (v := iV l1) (pc := 158) (dec_at lsk_268 (k := 90) rfl) rfl ?_
      refine u_ld (v := iV l2) (pc := 159) (dec_at lsk_268 (k := 91) rfl) rfl ?_
      refine u_cvV (As := [iV l1, iV l2]) (rb := 271) (st2 := []) (pc := 160) (dec_at lsk_268 (k := 92) rfl) m_12_532 (Or.inl rfl) rfl (Nat.le_of_ble_eq_true rfl) sx_271 me_276 rfl h (fun u22 h => ?_)
      refine u_ld (v := .ref 271) (pc := 163) (dec_at lsk_268 (k := 93) rfl) rfl ?_
      refine u_ld (v := iV l2) (pc := 164) (dec_at lsk_268 (k := 94) rfl) rfl ?_
      refine u_pI (z := 74) (pc := 165) (dec_at lsk_268 (k := 95) rfl) f_12_535 sx_271 rfl rfl rfl rfl (fun u23 e24 => ?_)
      have h := h u23 e24
      refine u_ld (v := .ref 271) (pc := 168) (dec_at lsk_268 (k := 96) rfl) rfl ?_
      refine u_ld (v := iV l2) (pc := 169) (dec_at lsk_268 (k := 97) rfl) rfl ?_
      refine u_c (x := 40) (pc := 170) (dec_at lsk_268 (k := 98) rfl) rfl (by decide) ?_
      refine u_irem (pc := 172) (dec_at lsk_268 (k := 99) rfl) g14 (by decide) (by decide) ?_
      refine u_pI (z := 75) (pc := 173) (dec_at lsk_268 (k := 100) rfl) f_12_538 sx_271 rfl rfl rfl rfl (fun u25 e26 => ?_)
      have h := h u25 e26
      refine u_ld (v := iV 0) (pc := 176) (dec_at lsk_268 (k := 101) rfl) rfl ?_
      refine u_sto (lv' := [.ref 271, iV l1, iV l2, iV 0, .retAddr 0, .retAddr 0]) (pc := 177) (dec_at lsk_268 (k := 102) rfl) rfl ?_
      exact u_weak (sbK (sbD (sbD (sbK (sbK (sbK sb0)))))) h
theorem k_268_80 {d : Nat} {Q : Int → uS → Prop} {u : uS} {l1 l2 l3 l4 s0 : Int} (h : (rI s0) ∧ (if s0 = 0 then (K_268 (d + 1) 29 [.ref 271, iV l1, iV l2, iV (l3 + 1), .retAddr 0, .retAddr 0] [] u Q) else ((rI l2) ∧ (if l2 = (-2) then (K_268 (d + 1) 29 [.ref 271, iV l1, iV l4, iV (l3 + 1), .retAddr 0, .retAddr 0] [] u Q) else ((0 ≤ l4) ∧ ((l4 < 16000) ∧ ((0 ≤ l2) ∧ ((l2 < 16000) ∧ ((rL (u.1 324 l4)) ∧ ((rL (u.1 324 l2)) ∧ (if u.1 324 l4 < u.1 324 l2 then (K_268 (d + 1) 29 [.ref 271, iV l1, iV l4, iV (l3 + 1), .retAddr 0, .retAddr 0] [] u Q) else (if u.1 324 l4 = u.1 324 l2 then ((rI (u.1 325 l4)) ∧ ((rI (u.1 325 l2)) ∧ (if u.1 325 l4 < u.1 325 l2 then (K_268 (d + 1) 29 [.ref 271, iV l1, iV l4, iV (l3 + 1), .retAddr 0, .retAddr 0] [] u Q) else (K_268 (d + 1) 29 [.ref 271, iV l1, iV l2, iV (l3 + 1), .retAddr 0, .retAddr 0] [] u Q)))) else (K_268 (d + 1) 29 [.ref 271, iV l1, iV l2, iV (l3 + 1), .retAddr 0, .retAddr 0] [] u Q))))))))))))) : K_268 (d + 1) 80 [.ref 271, iV l1, iV l2, iV l3, iV l4, .retAddr 0] [iV s0] u Q := by
  unfold K_268
  refine u_sto (lv' := [.ref 271, iV l1, iV l2, iV l3, iV l4, iV s0]) (pc := 80) (dec_at lsk_268 (k := 48) rfl) rfl ?_
  refine u_ld (v := iV s0) (pc := 82) (dec_at lsk_268 (k := 49) rfl) rfl ?_
  have g1 := h.1
  have h := h.2
  refine u_ifT (pc := 84) (tgt := 128) (dec_at lsk_268 (k := 50) rfl) rfl (c0_eq g1) (fun e2 => ?_) (fun e2 => ?_)
  · have h := ifT e2 h
    refine u_inc (lv' := [.ref 271, iV l1, iV l2, iV (l3 + 1), iV l4, iV s0]) (pc := 128) (dec_at lsk_268 (k := 74) rfl) rfl (by decide) rfl ?_
    refine u_goto (pc := 131) (tgt := 29) (dec_at lsk_268 (k := 75) rfl) rfl ?_
    exact u_weak (sbK (sbK (sbK (sbK (sbD (sbD sb0)))))) h
  · have h := ifF e2 h
    refine u_ld (v := iV l2) (pc := 87) (dec_at lsk_268 (k := 51) rfl) rfl ?_
    refine u_c (x := (-2)) (pc := 88) (dec_at lsk_268 (k := 52) rfl) rfl (by decide) ?_
    have g3 := h.1
    have h := h.2
    refine u_icT (pc := 90) (tgt := 125) (dec_at lsk_268 (k := 53) rfl) rfl (ci_eq g3 (by decide)) (fun e4 => ?_) (fun e4 => ?_)
    · have h := ifT e4 h
      refine u_ld (v := iV l4) (pc := 125) (dec_at lsk_268 (k := 72) rfl) rfl ?_
      refine u_sto (lv' := [.ref 271, iV l1, iV l4, iV l3, iV l4, iV s0]) (pc := 127) (dec_at lsk_268 (k := 73) rfl) rfl ?_
      refine u_inc (lv' := [.ref 271, iV l1, iV l4, iV (l3 + 1), iV l4, iV s0]) (pc := 128) (dec_at lsk_268 (k := 74) rfl) rfl (by decide) rfl ?_
      refine u_goto (pc := 131) (tgt := 29) (dec_at lsk_268 (k := 75) rfl) rfl ?_
      exact u_weak (sbK (sbK (sbK (sbK (sbD (sbD sb0)))))) h
    · have h := ifF e4 h
      refine u_ld (v := .ref 271) (pc := 93) (dec_at lsk_268 (k := 54) rfl) rfl ?_
      refine u_gS (o := 53) (p := 324) (pc := 94) (dec_at lsk_268 (k := 55) rfl) f_12_169 sx_271 rfl rfl ?_
      refine u_ld (v := iV l4) (pc := 97) (dec_at lsk_268 (k := 56) rfl) rfl ?_
      have g5 := h.1
      have h := h.2
      have g6 := h.1
      have h := h.2
      refine u_lald (pc := 99) (dec_at lsk_268 (k := 57) rfl) sx_324 g5 g6 ?_
      refine u_ld (v := .ref 271) (pc := 100) (dec_at lsk_268 (k := 58) rfl) rfl ?_
      refine u_gS (o := 54) (p := 325) (pc := 101) (dec_at lsk_268 (k := 59) rfl) f_12_172 sx_271 rfl rfl ?_
      refine u_ld (v := iV l4) (pc := 104) (dec_at lsk_268 (k := 60) rfl) rfl ?_
      refine u_iald (pc := 106) (dec_at lsk_268 (k := 61) rfl) sx_325 g5 g6 ?_
      refine u_ld (v := .ref 271) (pc := 107) (dec_at lsk_268 (k := 62) rfl) rfl ?_
      refine u_gS (o := 53) (p := 324) (pc := 108) (dec_at lsk_268 (k := 63) rfl) f_12_169 sx_271 rfl rfl ?_
      refine u_ld (v := iV l2) (pc := 111) (dec_at lsk_268 (k := 64) rfl) rfl ?_
      have g7 := h.1
      have h := h.2
      have g8 := h.1
      have h := h.2
      refine u_lald (pc := 112) (dec_at lsk_268 (k := 65) rfl) sx_324 g7 g8 ?_
      refine u_ld (v := .ref 271) (pc := 113) (dec_at lsk_268 (k := 66) rfl) rfl ?_
      refine u_gS (o := 54) (p := 325) (pc := 114) (dec_at lsk_268 (k := 67) rfl) f_12_172 sx_271 rfl rfl ?_
      refine u_ld (v := iV l2) (pc := 117) (dec_at lsk_268 (k := 68) rfl) rfl ?_
      refine u_iald (pc := 118) (dec_at lsk_268 (k := 69) rfl) sx_325 g7 g8 ?_
      refine u_csI (As := [lV (u.1 324 l4), iV (u.1 325 l4), lV (u.1 324 l2), iV (u.1 325 l2)]) (st2 := []) (pc := 119) (dec_at lsk_268 (k := 70) rfl) m_12_497 (Or.inl rfl) rfl (Nat.le_of_ble_eq_true rfl) ?_ (fun _ _ h_ => h_)
      refine u_of me_273 (Nat.le_of_ble_eq_true rfl) ?_
      refine u_ld (v := lV (u.1 324 l4)) (pc := 0) (dec_at lsk_273 (k := 0) rfl) rfl ?_
      refine u_ld (v := lV (u.1 324 l2)) (pc := 1) (dec_at lsk_273 (k := 1) rfl) rfl ?_
      refine u_st (st' := [.int (lg_cmp (Int64.ofInt (u.1 324 l4)) (Int64.ofInt (u.1 324 l2)))]) (pc := 2) (dec_at lsk_273 (k := 2) rfl) rfl ?_
      have g9 := h.1
      have h := h.2
      have g10 := h.1
      have h := h.2
      refine u_ifT (pc := 3) (tgt := 18) (dec_at lsk_273 (k := 3) rfl) rfl (cl_lt g9 g10) (fun e11 => ?_) (fun e11 => ?_)
      · have h := ifT e11 h
        refine u_ld (v := iV 1) (pc := 18) (dec_at lsk_273 (k := 11) rfl) rfl ?_
        refine u_goto (pc := 19) (tgt := 23) (dec_at lsk_273 (k := 12) rfl) rfl ?_
        refine u_rZ (pc := 23) (dec_at lsk_273 (k := 14) rfl) rfl (by decide) ?_
        refine u_ifT (pc := 122) (tgt := 128) (dec_at lsk_268 (k := 71) rfl) rfl (c0_eq (by decide)) (fun e => absurd e (by decide)) (fun _ => ?_)
        refine u_ld (v := iV l4) (pc := 125) (dec_at lsk_268 (k := 72) rfl) rfl ?_
        refine u_sto (lv' := [.ref 271, iV l1, iV l4, iV l3, iV l4, iV s0]) (pc := 127) (dec_at lsk_268 (k := 73) rfl) rfl ?_
        refine u_inc (lv' := [.ref 271, iV l1, iV l4, iV (l3 + 1), iV l4, iV s0]) (pc := 128) (dec_at lsk_268 (k := 74) rfl) rfl (by decide) rfl ?_
        refine u_goto (pc := 131) (tgt := 29) (dec_at lsk_268 (k := 75) rfl) rfl ?_
        exact u_weak (sbK (sbK (sbK (sbK (sbD (sbD sb0)))))) h
      · have h := ifF e11 h
        refine u_ld (v := lV (u.1 324 l4)) (pc := 6) (dec_at lsk_273 (k := 4) rfl) rfl ?_
        refine u_ld (v := lV (u.1 324 l2)) (pc := 7) (dec_at lsk_273 (k := 5) rfl) rfl ?_
        refine u_st (st' := [.int (lg_cmp (Int64.ofInt (u.1 324 l4)) (Int64.ofInt (u.1 324 l2)))]) (pc := 8) (dec_at lsk_273 (k := 6) rfl) rfl ?_
        refine u_ifF (pc := 9) (tgt := 22) (dec_at lsk_273 (k := 7) rfl) rfl (cl_ne g9 g10) (fun e12 => ?_) (fun e12 => ?_)
        · have h := ifT e12 h
          refine u_ld (v := iV (u.1 325 l4)) (pc := 12) (dec_at lsk_273 (k := 8) rfl) rfl ?_
          refine u_ld (v := iV (u.1 325 l2)) (pc := 13) (dec_at lsk_273 (k := 9) rfl) rfl ?_
          have g13 := h.1
          have h := h.2
          have g14 := h.1
          have h := h.2
          refine u_icF (pc := 15) (tgt := 22) (dec_at lsk_273 (k := 10) rfl) rfl (ci_ge g13 g14) (fun e15 => ?_) (fun e15 => ?_)
          · have h := ifT e15 h
            refine u_ld (v := iV 1) (pc := 18) (dec_at lsk_273 (k := 11) rfl) rfl ?_
            refine u_goto (pc := 19) (tgt := 23) (dec_at lsk_273 (k := 12) rfl) rfl ?_
            refine u_rZ (pc := 23) (dec_at lsk_273 (k := 14) rfl) rfl (by decide) ?_
            refine u_ifT (pc := 122) (tgt := 128) (dec_at lsk_268 (k := 71) rfl) rfl (c0_eq (by decide)) (fun e => absurd e (by decide)) (fun _ => ?_)
            refine u_ld (v := iV l4) (pc := 125) (dec_at lsk_268 (k := 72) rfl) rfl ?_
            refine u_sto (lv' := [.ref 271, iV l1, iV l4, iV l3, iV l4, iV s0]) (pc := 127) (dec_at lsk_268 (k := 73) rfl) rfl ?_
            refine u_inc (lv' := [.ref 271, iV l1, iV l4, iV (l3 + 1), iV l4, iV s0]) (pc := 128) (dec_at lsk_268 (k := 74) rfl) rfl (by decide) rfl ?_
            refine u_goto (pc := 131) (tgt := 29) (dec_at lsk_268 (k := 75) rfl) rfl ?_
            exact u_weak (sbK (sbK (sbK (sbK (sbD (sbD sb0)))))) h
          · have h := ifF e15 h
            refine u_ld (v := iV 0) (pc := 22) (dec_at lsk_273 (k := 13) rfl) rfl ?_
            refine u_rZ (pc := 23) (dec_at lsk_273 (k := 14) rfl) rfl (by decide) ?_
            refine u_ifT (pc := 122) (tgt := 128) (dec_at lsk_268 (k := 71) rfl) rfl (c0_eq (by decide)) (fun _ => ?_) (fun e => absurd e (by decide))
            refine u_inc (lv' := [.ref 271, iV l1, iV l2, iV (l3 + 1), iV l4, iV s0]) (pc := 128) (dec_at lsk_268 (k := 74) rfl) rfl (by decide) rfl ?_
            refine u_goto (pc := 131) (tgt := 29) (dec_at lsk_268 (k := 75) rfl) rfl ?_
            exact u_weak (sbK (sbK (sbK (sbK (sbD (sbD sb0)))))) h
        · have h := ifF e12 h
          refine u_ld (v := iV 0) (pc := 22) (dec_at lsk_273 (k := 13) rfl) rfl ?_
          refine u_rZ (pc := 23) (dec_at lsk_273 (k := 14) rfl) rfl (by decide) ?_
          refine u_ifT (pc := 122) (tgt := 128) (dec_at lsk_268 (k := 71) rfl) rfl (c0_eq (by decide)) (fun _ => ?_) (fun e => absurd e (by decide))
          refine u_inc (lv' := [.ref 271, iV l1, iV l2, iV (l3 + 1), iV l4, iV s0]) (pc := 128) (dec_at lsk_268 (k := 74) rfl) rfl (by decide) rfl ?_
          refine u_goto (pc := 131) (tgt := 29) (dec_at lsk_268 (k := 75) rfl) rfl ?_
          exact u_weak (sbK (sbK (sbK (sbK (sbD (sbD sb0)))))) h
theorem k_268_178 {d : Nat} {Q : Int → uS → Prop} {u : uS} {l3 : Int} (h : (rI l3) ∧ ((rI (u.1 271 6)) ∧ (if l3 < u.1 271 6 then ((0 ≤ l3) ∧ ((l3 < 30) ∧ (∀ u6 : uS, u6 = wr u 336 l3 (u.1 275 l3) → (∀ u8 : uS, u8 = wr u6 337 l3 (u6.1 276 l3) → (K_268 (d + 1) 213 [.ref 271, .retAddr 0, .retAddr 0, iV l3, iV 0, .retAddr 0] [] u8 Q))))) else (Q 0 u)))) : K_268 (d + 1) 178 [.ref 271, .retAddr 0, .retAddr 0, iV l3, .retAddr 0, .retAddr 0] [] u Q := by
  unfold K_268
  refine u_ld (v := iV l3) (pc := 178) (dec_at lsk_268 (k := 103) rfl) rfl ?_
  refine u_ld (v := .ref 271) (pc := 179) (dec_at lsk_268 (k := 104) rfl) rfl ?_
  refine u_gI (z := 6) (pc := 180) (dec_at lsk_268 (k := 105) rfl) f_12_306 sx_271 rfl rfl ?_
  have g1 := h.1
  have h := h.2
  have g2 := h.1
  have h := h.2
  refine u_icF (pc := 183) (tgt := 256) (dec_at lsk_268 (k := 106) rfl) rfl (ci_ge g1 g2) (fun e3 => ?_) (fun e3 => ?_)
  · have h := ifT e3 h
    refine u_ld (v := .ref 271) (pc := 186) (dec_at lsk_268 (k := 107) rfl) rfl ?_
    refine u_gS (o := 65) (p := 336) (pc := 187) (dec_at lsk_268 (k := 108) rfl) f_12_207 sx_271 rfl rfl ?_
    refine u_ld (v := iV l3) (pc := 190) (dec_at lsk_268 (k := 109) rfl) rfl ?_
    refine u_ld (v := .ref 271) (pc := 191) (dec_at lsk_268 (k := 110) rfl) rfl ?_
    refine u_gS (o := 4) (p := 275) (pc := 192) (dec_at lsk_268 (k := 111) rfl) f_12_19 sx_271 rfl rfl ?_
    refine u_ld (v := iV l3) (pc := 195) (dec_at lsk_268 (k := 112) rfl) rfl ?_
    have g4 := h.1
    have h := h.2
    have g5 := h.1
    have h := h.2
    refine u_iald (pc := 196) (dec_at lsk_268 (k := 113) rfl) sx_275 g4 g5 ?_
    refine u_iast (pc := 197) (dec_at lsk_268 (k := 114) rfl) sx_336 g4 g5 (fun u6 e7 => ?_)
    have h := h u6 e7
    refine u_ld (v := .ref 271) (pc := 198) (dec_at lsk_268 (k := 115) rfl) rfl ?_
    refine u_gS (o := 66) (p := 337) (pc := 199) (dec_at lsk_268 (k := 116) rfl) f_12_210 sx_271 rfl rfl ?_
    refine u_ld (v := iV l3) (pc := 202) (dec_at lsk_268 (k := 117) rfl) rfl ?_
    refine u_ld (v := .ref 271) (pc := 203) (dec_at lsk_268 (k := 118) rfl) rfl ?_
    refine u_gS (o := 5) (p := 276) (pc := 204) (dec_at lsk_268 (k := 119) rfl) f_12_22 sx_271 rfl rfl ?_
    refine u_ld (v := iV l3) (pc := 207) (dec_at lsk_268 (k := 120) rfl) rfl ?_
    refine u_iald (pc := 208) (dec_at lsk_268 (k := 121) rfl) sx_276 g4 g5 ?_
    refine u_iast (pc := 209) (dec_at lsk_268 (k := 122) rfl) sx_337 g4 g5 (fun u8 e9 => ?_)
    have h := h u8 e9
    refine u_ld (v := iV 0) (pc := 210) (dec_at lsk_268 (k := 123) rfl) rfl ?_
    refine u_sto (lv' := [.ref 271, .retAddr 0, .retAddr 0, iV l3, iV 0, .retAddr 0]) (pc := 211) (dec_at lsk_268 (k := 124) rfl) rfl ?_
    exact h
  · have h := ifF e3 h
    refine u_ld (v := iV 0) (pc := 256) (dec_at lsk_268 (k := 148) rfl) rfl ?_
    exact u_rI (pc := 257) (dec_at lsk_268 (k := 149) rfl) rfl h
theorem k_268_213 {d : Nat} {Q : Int → uS → Prop} {u : uS} {l3 l4 : Int} (h : (rI l4) ∧ (if l4 < 6 then ((0 ≤ (6 * l3) + l4) ∧ (((6 * l3) + l4 < 180) ∧ (∀ u5 : uS, u5 = wr u 338 ((6 * l3) + l4) (u.1 277 ((6 * l3) + l4)) → (K_268 (d + 1) 213 [.ref 271, .retAddr 0, .retAddr 0, iV l3, iV (l4 + 1), .retAddr 0] [] u5 Q)))) else (K_268 (d + 1) 178 [.ref 271, .retAddr 0, .retAddr 0, iV (l3 + 1), .retAddr 0, .retAddr 0] [] u Q))) : K_268 (d + 1) 213 [.ref 271, .retAddr 0, .retAddr 0, iV l3, iV l4, .retAddr 0] [] u Q := by
  unfold K_268
  refine u_ld (v := iV l4) (pc := 213) (dec_at lsk_268 (k := 125) rfl) rfl ?_
  refine u_c (x := 6) (pc := 215) (dec_at lsk_268 (k := 126) rfl) rfl (by decide) ?_
  have g1 := h.1
  have h := h.2
  refine u_icF (pc := 217) (tgt := 250) (dec_at lsk_268 (k := 127) rfl) rfl (ci_ge g1 (by decide)) (fun e2 => ?_) (fun e2 => ?_)
  · have h := ifT e2 h
    refine u_ld (v := .ref 271) (pc := 220) (dec_at lsk_268 (k := 128) rfl) rfl ?_
    refine u_gS (o := 67) (p := 338) (pc := 221) (dec_at lsk_268 (k := 129) rfl) f_12_213 sx_271 rfl rfl ?_
    refine u_c (x := 6) (pc := 224) (dec_at lsk_268 (k := 130) rfl) rfl (by decide) ?_
    refine u_ld (v := iV l3) (pc := 226) (dec_at lsk_268 (k := 131) rfl) rfl ?_
    refine u_imul (pc := 227) (dec_at lsk_268 (k := 132) rfl) ?_
    refine u_ld (v := iV l4) (pc := 228) (dec_at lsk_268 (k := 133) rfl) rfl ?_
    refine u_iadd (pc := 230) (dec_at lsk_268 (k := 134) rfl) ?_
    refine u_ld (v := .ref 271) (pc := 231) (dec_at lsk_268 (k := 135) rfl) rfl ?_
    refine u_gS (o := 6) (p := 277) (pc := 232) (dec_at lsk_268 (k := 136) rfl) f_12_25 sx_271 rfl rfl ?_
    refine u_c (x := 6) (pc := 235) (dec_at lsk_268 (k := 137) rfl) rfl (by decide) ?_
    refine u_ld (v := iV l3) (pc := 237) (dec_at lsk_268 (k := 138) rfl) rfl ?_
    refine u_imul (pc := 238) (dec_at lsk_268 (k := 139) rfl) ?_
    refine u_ld (v := iV l4) (pc := 239) (dec_at lsk_268 (k := 140) rfl) rfl ?_
    refine u_iadd (pc := 241) (dec_at lsk_268 (k := 141) rfl) ?_
    have g3 := h.1
    have h := h.2
    have g4 := h.1
    have h := h.2
    refine u_iald (pc := 242) (dec_at lsk_268 (k := 142) rfl) sx_277 g3 g4 ?_
    refine u_iast (pc := 243) (dec_at lsk_268 (k := 143) rfl) sx_338 g3 g4 (fun u5 e6 => ?_)
    have h := h u5 e6
    refine u_inc (lv' := [.ref 271, .retAddr 0, .retAddr 0, iV l3, iV (l4 + 1), .retAddr 0]) (pc := 244) (dec_at lsk_268 (k := 144) rfl) rfl (by decide) rfl ?_
    refine u_goto (pc := 247) (tgt := 213) (dec_at lsk_268 (k := 145) rfl) rfl ?_
    exact h
  · have h := ifF e2 h
    refine u_inc (lv' := [.ref 271, .retAddr 0, .retAddr 0, iV (l3 + 1), iV l4, .retAddr 0]) (pc := 250) (dec_at lsk_268 (k := 146) rfl) rfl (by decide) rfl ?_
    refine u_goto (pc := 253) (tgt := 178) (dec_at lsk_268 (k := 147) rfl) rfl ?_
    exact u_weak (sbK (sbK (sbK (sbK (sbD (sbK sb0)))))) h
/-- method 269 -/
def K_269 (d pc : Nat) (lv : ev_L) (st : List Value) (u : uS) (Q : uS → Prop) : Prop := okU d 12 4 false none prog_14_method_74_code (qV Q) pc lv st u
theorem e_269 {d : Nat} {Q : uS → Prop} {u : uS} {l1 : Int} (h : (0 ≤ l1) ∧ ((l1 < 100) ∧ (K_269 d 9 [.ref 271, iV l1, iV (u.1 301 l1), iV 0] [] u Q))) : cV (d + 1) 269 [.ref 271, iV l1] u Q := by
  refine u_of me_269 (Nat.le_of_ble_eq_true rfl) ?_
  refine u_ld (v := .ref 271) (pc := 0) (dec_at lsk_269 (k := 0) rfl) rfl ?_
  refine u_gS (o := 30) (p := 301) (pc := 1) (dec_at lsk_269 (k := 1) rfl) f_12_99 sx_271 rfl rfl ?_
  refine u_ld (v := iV l1) (pc := 4) (dec_at lsk_269 (k := 2) rfl) rfl ?_
  have g1 := h.1
  have h := h.2
  have g2 := h.1
  have h := h.2
  refine u_iald (pc := 5) (dec_at lsk_269 (k := 3) rfl) sx_301 g1 g2 ?_
  refine u_sto (lv' := [.ref 271, iV l1, iV (u.1 301 l1), .retAddr 0]) (pc := 6) (dec_at lsk_269 (k := 4) rfl) rfl ?_
  refine u_ld (v := iV 0) (pc := 7) (dec_at lsk_269 (k := 5) rfl) rfl ?_
  refine u_sto (lv' := [.ref 271, iV l1, iV (u.1 301 l1), iV 0]) (pc := 8) (dec_at lsk_269 (k := 6) rfl) rfl ?_
  exact h
theorem k_269_9 {d : Nat} {Q : uS → Prop} {u : uS} {l1 l2 l3 : Int} (h : (rI l3) ∧ (if l3 < 16000 then ((0 ≤ l3) ∧ (∀ u4 : uS, u4 = wr u 324 l3 6000000000000000000 → (∀ u6 : uS, u6 = wr u4 325 l3 0 → (K_269 d 9 [.ref 271, iV l1, iV l2, iV (l3 + 1)] [] u6 Q)))) else (cV d 270 [.ref 271, iV l1, iV l2, iV 0] u (fun u8 => K_269 d 47 [.ref 271, iV l1, iV l2, iV 0] [] u8 Q)))) : K_269 d 9 [.ref 271, iV l1, iV l2, iV l3] [] u Q := by
  unfold K_269
  refine u_ld (v := iV l3) (pc := 9) (dec_at lsk_269 (k := 7) rfl) rfl ?_
  refine u_c (x := 16000) (pc := 10) (dec_at lsk_269 (k := 8) rfl) rfl (by decide) ?_
  have g1 := h.1
  have h := h.2
  refine u_icF (pc := 13) (tgt := 38) (dec_at lsk_269 (k := 9) rfl) rfl (ci_ge g1 (by decide)) (fun e2 => ?_) (fun e2 => ?_)
  · have h := ifT e2 h
    refine u_ld (v := .ref 271) (pc := 16) (dec_at lsk_269 (k := 10) rfl) rfl ?_
    refine u_gS (o := 53) (p := 324) (pc := 17) (dec_at lsk_269 (k := 11) rfl) f_12_169 sx_271 rfl rfl ?_
    refine u_ld (v := iV l3) (pc := 20) (dec_at lsk_269 (k := 12) rfl) rfl ?_
    refine u_ldc2 (x := 6000000000000000000) (pc := 21) (dec_at lsk_269 (k := 13) rfl) con_12_487 (by decide) ?_
    have g3 := h.1
    have h := h.2
    refine u_last (pc := 24) (dec_at lsk_269 (k := 14) rfl) sx_324 g3 e2 (fun u4 e5 => ?_)
    have h := h u4 e5
    refine u_ld (v := .ref 271) (pc := 25) (dec_at lsk_269 (k := 15) rfl) rfl ?_
    refine u_gS (o := 54) (p := 325) (pc := 26) (dec_at lsk_269 (k := 16) rfl) f_12_172 sx_271 rfl rfl ?_
    refine u_ld (v := iV l3) (pc := 29) (dec_at lsk_269 (k := 17) rfl) rfl ?_
    refine u_ld (v := iV 0) (pc := 30) (dec_at lsk_269 (k := 18) rfl) rfl ?_
    refine u_iast (pc := 31) (dec_at lsk_269 (k := 19) rfl) sx_325 g3 e2 (fun u6 e7 => ?_)
    have h := h u6 e7
    refine u_inc (lv' := [.ref 271, iV l1, iV l2, iV (l3 + 1)]) (pc := 32) (dec_at lsk_269 (k := 20) rfl) rfl (by decide) rfl ?_
    refine u_goto (pc := 35) (tgt := 9) (dec_at lsk_269 (k := 21) rfl) rfl ?_
    exact h
  · have h := ifF e2 h
    refine u_ld (v := .ref 271) (pc := 38) (dec_at lsk_269 (k := 22) rfl) rfl ?_
    refine u_ld (v := iV l1) (pc := 39) (dec_at lsk_269 (k := 23) rfl) rfl ?_
    refine u_ld (v := iV l2) (pc := 40) (dec_at lsk_269 (k := 24) rfl) rfl ?_
    refine u_ld (v := iV 0) (pc := 41) (dec_at lsk_269 (k := 25) rfl) rfl ?_
    refine u_cvV (As := [iV l1, iV l2, iV 0]) (rb := 271) (st2 := []) (pc := 42) (dec_at lsk_269 (k := 26) rfl) m_12_501 (Or.inl rfl) rfl (Nat.le_of_ble_eq_true rfl) sx_271 me_270 rfl h (fun u8 h => ?_)
    refine u_ld (v := iV 0) (pc := 45) (dec_at lsk_269 (k := 27) rfl) rfl ?_
    refine u_sto (lv' := [.ref 271, iV l1, iV l2, iV 0]) (pc := 46) (dec_at lsk_269 (k := 28) rfl) rfl ?_
    exact h
theorem k_269_47 {d : Nat} {Q : uS → Prop} {u : uS} {l1 l2 l3 : Int} (h : (rI l3) ∧ (if l3 < 16000 then ((0 ≤ l3) ∧ (∀ u4 : uS, u4 = wr u 325 l3 1000000 → (K_269 d 47 [.ref 271, iV l1, iV l2, iV (l3 + 1)] [] u4 Q))) else (cV d 270 [.ref 271, iV l1, iV l2, iV 1] u (fun u6 => Q u6)))) : K_269 d 47 [.ref 271, iV l1, iV l2, iV l3] [] u Q := by
  unfold K_269
  refine u_ld (v := iV l3) (pc := 47) (dec_at lsk_269 (k := 29) rfl) rfl ?_
  refine u_c (x := 16000) (pc := 48) (dec_at lsk_269 (k := 30) rfl) rfl (by decide) ?_
  have g1 := h.1
  have h := h.2
  refine u_icF (pc := 51) (tgt := 69) (dec_at lsk_269 (k := 31) rfl) rfl (ci_ge g1 (by decide)) (fun e2 => ?_) (fun e2 => ?_)
  · have h := ifT e2 h
    refine u_ld (v := .ref 271) (pc := 54) (dec_at lsk_269 (k := 32) rfl) rfl ?_
    refine u_gS (o := 54) (p := 325) (pc := 55) (dec_at lsk_269 (k := 33) rfl) f_12_172 sx_271 rfl rfl ?_
    refine u_ld (v := iV l3) (pc := 58) (dec_at lsk_269 (k := 34) rfl) rfl ?_
    refine u_ldcw (x := 1000000) (pc := 59) (dec_at lsk_269 (k := 35) rfl) con_12_489 (by decide) ?_
    have g3 := h.1
    have h := h.2
    refine u_iast (pc := 62) (dec_at lsk_269 (k := 36) rfl) sx_325 g3 e2 (fun u4 e5 => ?_)
    have h := h u4 e5
    refine u_inc (lv' := [.ref 271, iV l1, iV l2, iV (l3 + 1)]) (pc := 63) (dec_at lsk_269 (k := 37) rfl) rfl (by decide) rfl ?_
    refine u_goto (pc := 66) (tgt := 47) (dec_at lsk_269 (k := 38) rfl) rfl ?_
    exact h
  · have h := ifF e2 h
    refine u_ld (v := .ref 271) (pc := 69) (dec_at lsk_269 (k := 39) rfl) rfl ?_
    refine u_ld (v := iV l1) (pc := 70) (dec_at lsk_269 (k := 40) rfl) rfl ?_
    refine u_ld (v := iV l2) (pc := 71) (dec_at lsk_269 (k := 41) rfl) rfl ?_
    refine u_ld (v := iV 1) (pc := 72) (dec_at lsk_269 (k := 42) rfl) rfl ?_
    refine u_cvV (As := [iV l1, iV l2, iV 1]) (rb := 271) (st2 := []) (pc := 73) (dec_at lsk_269 (k := 43) rfl) m_12_501 (Or.inl rfl) rfl (Nat.le_of_ble_eq_true rfl) sx_271 me_270 rfl h (fun u6 h => ?_)
    exact u_rV (pc := 76) (dec_at lsk_269 (k := 44) rfl) rfl h
/-- method 270 -/
def K_270 (d pc : Nat) (lv : ev_L) (st : List Value) (u : uS) (Q : uS → Prop) : Prop := okU d 12 7 false none prog_14_method_75_code (qV Q) pc lv st u
theorem e_270 {d : Nat} {Q : uS → Prop} {u : uS} {l1 l2 l3 : Int} (h : K_270 d 3 [.ref 271, iV l1, iV l2, iV l3, iV 1, .retAddr 0, .retAddr 0] [] u Q) : cV (d + 1) 270 [.ref 271, iV l1, iV l2, iV l3] u Q := by
  refine u_of me_270 (Nat.le_of_ble_eq_true rfl) ?_
  refine u_ld (v := iV 1) (pc := 0) (dec_at lsk_270 (k := 0) rfl) rfl ?_
  refine u_sto (lv' := [.ref 271, iV l1, iV l2, iV l3, iV 1, .retAddr 0, .retAddr 0]) (pc := 1) (dec_at lsk_270 (k := 1) rfl) rfl ?_
  exact h
theorem k_270_3 {d : Nat} {Q : uS → Prop} {u : uS} {l1 l2 l3 l4 : Int} (h : (rI l4) ∧ (if l4 = 0 then (Q u) else (K_270 d 14 [.ref 271, iV l1, iV l2, iV l3, iV 0, iV 0, .retAddr 0] [] u Q))) : K_270 d 3 [.ref 271, iV l1, iV l2, iV l3, iV l4, .retAddr 0, .retAddr 0] [] u Q := by
  unfold K_270
  refine u_ld (v := iV l4) (pc := 3) (dec_at lsk_270 (k := 2) rfl) rfl ?_
  have g1 := h.1
  have h := h.2
  refine u_ifT (pc := 5) (tgt := 81) (dec_at lsk_270 (k := 3) rfl) rfl (c0_eq g1) (fun e2 => ?_) (fun e2 => ?_)
  · have h := ifT e2 h
    exact u_rV (pc := 81) (dec_at lsk_270 (k := 40) rfl) rfl h
  · have h := ifF e2 h
    refine u_ld (v := iV 0) (pc := 8) (dec_at lsk_270 (k := 4) rfl) rfl ?_
    refine u_sto (lv' := [.ref 271, iV l1, iV l2, iV l3, iV 0, .retAddr 0, .retAddr 0]) (pc := 9) (dec_at lsk_270 (k := 5) rfl) rfl ?_
    refine u_ld (v := iV 0) (pc := 11) (dec_at lsk_270 (k := 6) rfl) rfl ?_
    refine u_sto (lv' := [.ref 271, iV l1, iV l2, iV l3, iV 0, iV 0, .retAddr 0]) (pc := 12) (dec_at lsk_270 (k := 7) rfl) rfl ?_
    exact h
theorem k_270_14 {d : Nat} {Q : uS → Prop} {u : uS} {l1 l2 l3 l4 l5 : Int} (h : (rI l5) ∧ ((rI (u.1 271 6)) ∧ (if l5 < u.1 271 6 then (K_270 d 26 [.ref 271, iV l1, iV l2, iV l3, iV l4, iV l5, iV 0] [] u Q) else (K_270 d 3 [.ref 271, iV l1, iV l2, iV l3, iV l4, .retAddr 0, .retAddr 0] [] u Q)))) : K_270 d 14 [.ref 271, iV l1, iV l2, iV l3, iV l4, iV l5, .retAddr 0] [] u Q := by
  unfold K_270
  refine u_ld (v := iV l5) (pc := 14) (dec_at lsk_270 (k := 8) rfl) rfl ?_
  refine u_ld (v := .ref 271) (pc := 16) (dec_at lsk_270 (k := 9) rfl) rfl ?_
  refine u_gI (z := 6) (pc := 17) (dec_at lsk_270 (k := 10) rfl) f_12_306 sx_271 rfl rfl ?_
  have g1 := h.1
  have h := h.2
  have g2 := h.1
  have h := h.2
  refine u_icF (pc := 20) (tgt := 78) (dec_at lsk_270 (k := 11) rfl) rfl (ci_ge g1 g2) (fun e3 => ?_) (fun e3 => ?_)
  · have h := ifT e3 h
    refine u_ld (v := iV 0) (pc := 23) (dec_at lsk_270 (k := 12) rfl) rfl ?_
    refine u_sto (lv' := [.ref 271, iV l1, iV l2, iV l3, iV l4, iV l5, iV 0]) (pc := 24) (dec_at lsk_270 (k := 13) rfl) rfl ?_
    exact h
  · have h := ifF e3 h
    refine u_goto (pc := 78) (tgt := 3) (dec_at lsk_270 (k := 39) rfl) rfl ?_
    exact u_weak (sbK (sbK (sbK (sbK (sbK (sbD (sbK sb0))))))) h
theorem k_270_26 {d : Nat} {Q : uS → Prop} {u : uS} {l1 l2 l3 l4 l5 l6 : Int} (h : (rI l6) ∧ ((rI l2) ∧ (if l6 < l2 then (cV d 271 [.ref 271, iV l1, iV l5, iV l6] u (fun u4 => cI d 275 [.ref 271, iV l5, iV l6, iV l2, iV l3] u4 (fun r6 u5 => (rI r6) ∧ (if r6 = 0 then ((rI l4) ∧ (if l4 = 0 then (K_270 d 26 [.ref 271, iV l1, iV l2, iV l3, iV 0, iV l5, iV (l6 + 1)] [] u5 Q) else (K_270 d 26 [.ref 271, iV l1, iV l2, iV l3, iV 1, iV l5, iV (l6 + 1)] [] u5 Q))) else (K_270 d 26 [.ref 271, iV l1, iV l2, iV l3, iV 1, iV l5, iV (l6 + 1)] [] u5 Q))))) else (K_270 d 14 [.ref 271, iV l1, iV l2, iV l3, iV l4, iV (l5 + 1), .retAddr 0] [] u Q)))) : K_270 d 26 [.ref 271, iV l1, iV l2, iV l3, iV l4, iV l5, iV l6] [] u Q := by
  unfold K_270
  refine u_ld (v := iV l6) (pc := 26) (dec_at lsk_270 (k := 14) rfl) rfl ?_
  refine u_ld (v := iV l2) (pc := 28) (dec_at lsk_270 (k := 15) rfl) rfl ?_
  have g1 := h.1
  have h := h.2
  have g2 := h.1
  have h := h.2
  refine u_icF (pc := 29) (tgt := 72) (dec_at lsk_270 (k := 16) rfl) rfl (ci_ge g1 g2) (fun e3 => ?_) (fun e3 => ?_)
  · have h := ifT e3 h
    refine u_ld (v := .ref 271) (pc := 32) (dec_at lsk_270 (k := 17) rfl) rfl ?_
    refine u_ld (v := iV l1) (pc := 33) (dec_at lsk_270 (k := 18) rfl) rfl ?_
    refine u_ld (v := iV l5) (pc := 34) (dec_at lsk_270 (k := 19) rfl) rfl ?_
    refine u_ld (v := iV l6) (pc := 36) (dec_at lsk_270 (k := 20) rfl) rfl ?_
    refine u_cvV (As := [iV l1, iV l5, iV l6]) (rb := 271) (st2 := []) (pc := 38) (dec_at lsk_270 (k := 21) rfl) m_12_504 (Or.inl rfl) rfl (Nat.le_of_ble_eq_true rfl) sx_271 me_271 rfl h (fun u4 h => ?_)
    refine u_ld (v := .ref 271) (pc := 41) (dec_at lsk_270 (k := 22) rfl) rfl ?_
    refine u_ld (v := iV l5) (pc := 42) (dec_at lsk_270 (k := 23) rfl) rfl ?_
    refine u_ld (v := iV l6) (pc := 44) (dec_at lsk_270 (k := 24) rfl) rfl ?_
    refine u_ld (v := iV l2) (pc := 46) (dec_at lsk_270 (k := 25) rfl) rfl ?_
    refine u_ld (v := iV l3) (pc := 47) (dec_at lsk_270 (k := 26) rfl) rfl ?_
    refine u_cvI (As := [iV l5, iV l6, iV l2, iV l3]) (rb := 271) (st2 := []) (pc := 48) (dec_at lsk_270 (k := 27) rfl) m_12_508 (Or.inl rfl) rfl (Nat.le_of_ble_eq_true rfl) sx_271 me_275 rfl h (fun r6 u5 h => ?_)
    have g7 := h.1
    have h := h.2
    refine u_ifF (pc := 51) (tgt := 59) (dec_at lsk_270 (k := 28) rfl) rfl (c0_ne g7) (fun e8 => ?_) (fun e8 => ?_)
    · have h := ifT e8 h
      refine u_ld (v := iV l4) (pc := 54) (dec_at lsk_270 (k := 29) rfl) rfl ?_
      have g9 := h.1
      have h := h.2
      refine u_ifT (pc := 56) (tgt := 63) (dec_at lsk_270 (k := 30) rfl) rfl (c0_eq g9) (fun e10 => ?_) (fun e10 => ?_)
      · have h := ifT e10 h
        refine u_ld (v := iV 0) (pc := 63) (dec_at lsk_270 (k := 33) rfl) rfl ?_
        refine u_sto (lv' := [.ref 271, iV l1, iV l2, iV l3, iV 0, iV l5, iV l6]) (pc := 64) (dec_at lsk_270 (k := 34) rfl) rfl ?_
        refine u_inc (lv' := [.ref 271, iV l1, iV l2, iV l3, iV 0, iV l5, iV (l6 + 1)]) (pc := 66) (dec_at lsk_270 (k := 35) rfl) rfl (by decide) rfl ?_
        refine u_goto (pc := 69) (tgt := 26) (dec_at lsk_270 (k := 36) rfl) rfl ?_
        exact h
      · have h := ifF e10 h
        refine u_ld (v := iV 1) (pc := 59) (dec_at lsk_270 (k := 31) rfl) rfl ?_
        refine u_goto (pc := 60) (tgt := 64) (dec_at lsk_270 (k := 32) rfl) rfl ?_
        refine u_sto (lv' := [.ref 271, iV l1, iV l2, iV l3, iV 1, iV l5, iV l6]) (pc := 64) (dec_at lsk_270 (k := 34) rfl) rfl ?_
        refine u_inc (lv' := [.ref 271, iV l1, iV l2, iV l3, iV 1, iV l5, iV (l6 + 1)]) (pc := 66) (dec_at lsk_270 (k := 35) rfl) rfl (by decide) rfl ?_
        refine u_goto (pc := 69) (tgt := 26) (dec_at lsk_270 (k := 36) rfl) rfl ?_
        exact h
    · have h := ifF e8 h
      refine u_ld (v := iV 1) (pc := 59) (dec_at lsk_270 (k := 31) rfl) rfl ?_
      refine u_goto (pc := 60) (tgt := 64) (dec_at lsk_270 (k := 32) rfl) rfl ?_
      refine u_sto (lv' := [.ref 271, iV l1, iV l2, iV l3, iV 1, iV l5, iV l6]) (pc := 64) (dec_at lsk_270 (k := 34) rfl) rfl ?_
      refine u_inc (lv' := [.ref 271, iV l1, iV l2, iV l3, iV 1, iV l5, iV (l6 + 1)]) (pc := 66) (dec_at lsk_270 (k := 35) rfl) rfl (by decide) rfl ?_
      refine u_goto (pc := 69) (tgt := 26) (dec_at lsk_270 (k := 36) rfl) rfl ?_
      exact h
  · have h := ifF e3 h
    refine u_inc (lv' := [.ref 271, iV l1, iV l2, iV l3, iV l4, iV (l5 + 1), iV l6]) (pc := 72) (dec_at lsk_270 (k := 37) rfl) rfl (by decide) rfl ?_
    refine u_goto (pc := 75) (tgt := 14) (dec_at lsk_270 (k := 38) rfl) rfl ?_
    exact u_weak (sbK (sbK (sbK (sbK (sbK (sbK (sbD sb0))))))) h
/-- method 271 -/
def K_271 (d pc : Nat) (lv : ev_L) (st : List Value) (u : uS) (Q : uS → Prop) : Prop := okU d 12 14 false none prog_14_method_72_code (qV Q) pc lv st u
theorem e_271 {d : Nat} {Q : uS → Prop} {u : uS} {l1 l2 l3 : Int} (h : (0 ≤ l1) ∧ ((l1 < 100) ∧ (K_271 (d + 1) 11 [.ref 271, iV l1, iV l2, iV l3, iV (u.1 301 l1), iV 0, .retAddr 0, .retAddr 0, .retAddr 0, .retAddr 0, .retAddr 0, .retAddr 0, .retAddr 0, .retAddr 0] [] u Q))) : cV (d + 2) 271 [.ref 271, iV l1, iV l2, iV l3] u Q := by
  refine u_of me_271 (Nat.le_of_ble_eq_true rfl) ?_
  refine u_ld (v := .ref 271) (pc := 0) (dec_at lsk_271 (k := 0) rfl) rfl ?_
  refine u_gS (o := 30) (p := 301) (pc := 1) (dec_at lsk_271 (k := 1) rfl) f_12_99 sx_271 rfl rfl ?_
  refine u_ld (v := iV l1) (pc := 4) (dec_at lsk_271 (k := 2) rfl) rfl ?_
  have g1 := h.1
  have h := h.2
  have g2 := h.1
  have h := h.2
  refine u_iald (pc := 5) (dec_at lsk_271 (k := 3) rfl) sx_301 g1 g2 ?_
  refine u_sto (lv' := [.ref 271, iV l1, iV l2, iV l3, iV (u.1 301 l1), .retAddr 0, .retAddr 0, .retAddr 0, .retAddr 0, .retAddr 0, .retAddr 0, .retAddr 0, .retAddr 0, .retAddr 0]) (pc := 6) (dec_at lsk_271 (k := 4) rfl) rfl ?_
  refine u_ld (v := iV 0) (pc := 8) (dec_at lsk_271 (k := 5) rfl) rfl ?_
  refine u_sto (lv' := [.ref 271, iV l1, iV l2, iV l3, iV (u.1 301 l1), iV 0, .retAddr 0, .retAddr 0, .retAddr 0, .retAddr 0, .retAddr 0, .retAddr 0, .retAddr 0, .retAddr 0]) (pc := 9) (dec_at lsk_271 (k := 6) rfl) rfl ?_
  exact h
theorem k_271_11 {d : Nat} {Q : uS → Prop} {u : uS} {l1 l2 l3 l4 l5 : Int} (h : (rI l5) ∧ ((rI l4) ∧ (if l5 < l4 then ((rI l3) ∧ (if l5 = l3 then ((0 ≤ l5) ∧ ((l5 < 280) ∧ (∀ u8 : uS, u8 = wr u 328 l5 0 → (∀ u10 : uS, u10 = wr u8 329 l5 0 → (∀ u13 : uS, u13 = wr u10 330 l5 0 → (K_271 (d + 1) 11 [.ref 271, iV l1, iV l2, iV l3, iV l4, iV (l5 + 1), .retAddr 0, .retAddr 0, .retAddr 0, .retAddr 0, .retAddr 0, .retAddr 0, .retAddr 0, .retAddr 0] [] u13 Q)))))) else ((0 ≤ l5) ∧ ((l5 < 280) ∧ (∀ u17 : uS, u17 = wr u 328 l5 6000000000000000000 → (∀ u19 : uS, u19 = wr u17 329 l5 0 → (∀ u22 : uS, u22 = wr u19 330 l5 1000000 → (K_271 (d + 1) 11 [.ref 271, iV l1, iV l2, iV l3, iV l4, iV (l5 + 1), .retAddr 0, .retAddr 0, .retAddr 0, .retAddr 0, .retAddr 0, .retAddr 0, .retAddr 0, .retAddr 0] [] u22 Q)))))))) else (K_271 (d + 1) 75 [.ref 271, iV l1, iV l2, .retAddr 0, iV l4, iV 1, .retAddr 0, .retAddr 0, .retAddr 0, .retAddr 0, .retAddr 0, .retAddr 0, .retAddr 0, .retAddr 0] [] u Q)))) : K_271 (d + 1) 11 [.ref 271, iV l1, iV l2, iV l3, iV l4, iV l5, .retAddr 0, .retAddr 0, .retAddr 0, .retAddr 0, .retAddr 0, .retAddr 0, .retAddr 0, .retAddr 0] [] u Q := by
  unfold K_271
  refine u_ld (v := iV l5) (pc := 11) (dec_at lsk_271 (k := 7) rfl) rfl ?_
  refine u_ld (v := iV l4) (pc := 13) (dec_at lsk_271 (k := 8) rfl) rfl ?_
  have g1 := h.1
  have h := h.2
  have g2 := h.1
  have h := h.2
  refine u_icF (pc := 15) (tgt := 72) (dec_at lsk_271 (k := 9) rfl) rfl (ci_ge g1 g2) (fun e3 => ?_) (fun e3 => ?_)
  · have h := ifT e3 h
    refine u_ld (v := .ref 271) (pc := 18) (dec_at lsk_271 (k := 10) rfl) rfl ?_
    refine u_gS (o := 57) (p := 328) (pc := 19) (dec_at lsk_271 (k := 11) rfl) f_12_182 sx_271 rfl rfl ?_
    refine u_ld (v := iV l5) (pc := 22) (dec_at lsk_271 (k := 12) rfl) rfl ?_
    refine u_ld (v := iV l5) (pc := 24) (dec_at lsk_271 (k := 13) rfl) rfl ?_
    refine u_ld (v := iV l3) (pc := 26) (dec_at lsk_271 (k := 14) rfl) rfl ?_
    have g4 := h.1
    have h := h.2
    refine u_icF (pc := 27) (tgt := 34) (dec_at lsk_271 (k := 15) rfl) rfl (ci_ne g1 g4) (fun e5 => ?_) (fun e5 => ?_)
    · have h := ifT e5 h
      refine u_cl (x := 0) (pc := 30) (dec_at lsk_271 (k := 16) rfl) rfl (by decide) ?_
      refine u_goto (pc := 31) (tgt := 37) (dec_at lsk_271 (k := 17) rfl) rfl ?_
      have g6 := h.1
      have h := h.2
      have g7 := h.1
      have h := h.2
      refine u_last (pc := 37) (dec_at lsk_271 (k := 19) rfl) sx_328 g6 g7 (fun u8 e9 => ?_)
      have h := h u8 e9
      refine u_ld (v := .ref 271) (pc := 38) (dec_at lsk_271 (k := 20) rfl) rfl ?_
      refine u_gS (o := 58) (p := 329) (pc := 39) (dec_at lsk_271 (k := 21) rfl) f_12_185 sx_271 rfl rfl ?_
      refine u_ld (v := iV l5) (pc := 42) (dec_at lsk_271 (k := 22) rfl) rfl ?_
      refine u_ld (v := iV 0) (pc := 44) (dec_at lsk_271 (k := 23) rfl) rfl ?_
      refine u_iast (pc := 45) (dec_at lsk_271 (k := 24) rfl) sx_329 g6 g7 (fun u10 e11 => ?_)
      have h := h u10 e11
      refine u_ld (v := .ref 271) (pc := 46) (dec_at lsk_271 (k := 25) rfl) rfl ?_
      refine u_gS (o := 59) (p := 330) (pc := 47) (dec_at lsk_271 (k := 26) rfl) f_12_188 sx_271 rfl rfl ?_
      refine u_ld (v := iV l5) (pc := 50) (dec_at lsk_271 (k := 27) rfl) rfl ?_
      refine u_ld (v := iV l5) (pc := 52) (dec_at lsk_271 (k := 28) rfl) rfl ?_
      refine u_ld (v := iV l3) (pc := 54) (dec_at lsk_271 (k := 29) rfl) rfl ?_
      refine u_icF (pc := 55) (tgt := 62) (dec_at lsk_271 (k := 30) rfl) rfl (ci_ne g1 g4) (fun _ => ?_) (fun e12 => absurd e5 e12)
      refine u_ld (v := iV 0) (pc := 58) (dec_at lsk_271 (k := 31) rfl) rfl ?_
      refine u_goto (pc := 59) (tgt := 65) (dec_at lsk_271 (k := 32) rfl) rfl ?_
      refine u_iast (pc := 65) (dec_at lsk_271 (k := 34) rfl) sx_330 g6 g7 (fun u13 e14 => ?_)
      have h := h u13 e14
      refine u_inc (lv' := [.ref 271, iV l1, iV l2, iV l3, iV l4, iV (l5 + 1), .retAddr 0, .retAddr 0, .retAddr 0, .retAddr 0, .retAddr 0, .retAddr 0, .retAddr 0, .retAddr 0]) (pc := 66) (dec_at lsk_271 (k := 35) rfl) rfl (by decide) rfl ?_
      refine u_goto (pc := 69) (tgt := 11) (dec_at lsk_271 (k := 36) rfl) rfl ?_
      exact h
    · have h := ifF e5 h
      refine u_ldc2 (x := 6000000000000000000) (pc := 34) (dec_at lsk_271 (k := 18) rfl) con_12_487 (by decide) ?_
      have g15 := h.1
      have h := h.2
      have g16 := h.1
      have h := h.2
      refine u_last (pc := 37) (dec_at lsk_271 (k := 19) rfl) sx_328 g15 g16 (fun u17 e18 => ?_)
      have h := h u17 e18
      refine u_ld (v := .ref 271) (pc := 38) (dec_at lsk_271 (k := 20) rfl) rfl ?_
      refine u_gS (o := 58) (p := 329) (pc := 39) (dec_at lsk_271 (k := 21) rfl) f_12_185 sx_271 rfl rfl ?_
      refine u_ld (v := iV l5) (pc := 42) (dec_at lsk_271 (k := 22) rfl) rfl ?_
      refine u_ld (v := iV 0) (pc := 44) (dec_at lsk_271 (k := 23) rfl) rfl ?_
      refine u_iast (pc := 45) (dec_at lsk_271 (k := 24) rfl) sx_329 g15 g16 (fun u19 e20 => ?_)
      have h := h u19 e20
      refine u_ld (v := .ref 271) (pc := 46) (dec_at lsk_271 (k := 25) rfl) rfl ?_
      refine u_gS (o := 59) (p := 330) (pc := 47) (dec_at lsk_271 (k := 26) rfl) f_12_188 sx_271 rfl rfl ?_
      refine u_ld (v := iV l5) (pc := 50) (dec_at lsk_271 (k := 27) rfl) rfl ?_
      refine u_ld (v := iV l5) (pc := 52) (dec_at lsk_271 (k := 28) rfl) rfl ?_
      refine u_ld (v := iV l3) (pc := 54) (dec_at lsk_271 (k := 29) rfl) rfl ?_
      refine u_icF (pc := 55) (tgt := 62) (dec_at lsk_271 (k := 30) rfl) rfl (ci_ne g1 g4) (fun e21 => absurd e21 e5) (fun _ => ?_)
      refine u_ldcw (x := 1000000) (pc := 62) (dec_at lsk_271 (k := 33) rfl) con_12_489 (by decide) ?_
      refine u_iast (pc := 65) (dec_at lsk_271 (k := 34) rfl) sx_330 g15 g16 (fun u22 e23 => ?_)
      have h := h u22 e23
      refine u_inc (lv' := [.ref 271, iV l1, iV l2, iV l3, iV l4, iV (l5 + 1), .retAddr 0, .retAddr 0, .retAddr 0, .retAddr 0, .retAddr 0, .retAddr 0, .retAddr 0, .retAddr 0]) (pc := 66) (dec_at lsk_271 (k := 35) rfl) rfl (by decide) rfl ?_
      refine u_goto (pc := 69) (tgt := 11) (dec_at lsk_271 (k := 36) rfl) rfl ?_
      exact h
  · have h := ifF e3 h
    refine u_ld (v := iV 1) (pc := 72) (dec_at lsk_271 (k := 37) rfl) rfl ?_
    refine u_sto (lv' := [.ref 271, iV l1, iV l2, iV l3, iV l4, iV 1, .retAddr 0, .retAddr 0, .retAddr 0, .retAddr 0, .retAddr 0, .retAddr 0, .retAddr 0, .retAddr 0]) (pc := 73) (dec_at lsk_271 (k := 38) rfl) rfl ?_
    exact u_weak (sbK (sbK (sbK (sbD (sbK (sbK (sbK (sbK (sbK (sbK (sbK (sbK (sbK (sbK sb0)))))))))))))) h
theorem k_271_75 {d : Nat} {Q : uS → Prop} {u : uS} {l1 l2 l4 l5 : Int} (h : (0 ≤ l2) ∧ ((l2 < 30) ∧ ((rI l5) ∧ ((rI (u.1 276 l2)) ∧ (if u.1 276 l2 < l5 then (Q u) else ((0 ≤ ((6 * l2) + l5) - 1) ∧ ((((6 * l2) + l5) - 1 < 180) ∧ (K_271 (d + 1) 105 [.ref 271, iV l1, iV l2, .retAddr 0, iV l4, iV l5, iV (u.1 277 (((6 * l2) + l5) - 1)), iV 0, .retAddr 0, .retAddr 0, .retAddr 0, .retAddr 0, .retAddr 0, .retAddr 0] [] u Q)))))))) : K_271 (d + 1) 75 [.ref 271, iV l1, iV l2, .retAddr 0, iV l4, iV l5, .retAddr 0, .retAddr 0, .retAddr 0, .retAddr 0, .retAddr 0, .retAddr 0, .retAddr 0, .retAddr 0] [] u Q := by
  unfold K_271
  refine u_ld (v := iV l5) (pc := 75) (dec_at lsk_271 (k := 39) rfl) rfl ?_
  refine u_ld (v := .ref 271) (pc := 77) (dec_at lsk_271 (k := 40) rfl) rfl ?_
  refine u_gS (o := 5) (p := 276) (pc := 78) (dec_at lsk_271 (k := 41) rfl) f_12_22 sx_271 rfl rfl ?_
  refine u_ld (v := iV l2) (pc := 81) (dec_at lsk_271 (k := 42) rfl) rfl ?_
  have g1 := h.1
  have h := h.2
  have g2 := h.1
  have h := h.2
  refine u_iald (pc := 82) (dec_at lsk_271 (k := 43) rfl) sx_276 g1 g2 ?_
  have g3 := h.1
  have h := h.2
  have g4 := h.1
  have h := h.2
  refine u_icT (pc := 83) (tgt := 414) (dec_at lsk_271 (k := 44) rfl) rfl (ci_gt g3 g4) (fun e5 => ?_) (fun e5 => ?_)
  · have h := ifT e5 h
    exact u_rV (pc := 414) (dec_at lsk_271 (k := 222) rfl) rfl h
  · have h := ifF e5 h
    refine u_ld (v := .ref 271) (pc := 86) (dec_at lsk_271 (k := 45) rfl) rfl ?_
    refine u_gS (o := 6) (p := 277) (pc := 87) (dec_at lsk_271 (k := 46) rfl) f_12_25 sx_271 rfl rfl ?_
    refine u_c (x := 6) (pc := 90) (dec_at lsk_271 (k := 47) rfl) rfl (by decide) ?_
    refine u_ld (v := iV l2) (pc := 92) (dec_at lsk_271 (k := 48) rfl) rfl ?_
    refine u_imul (pc := 93) (dec_at lsk_271 (k := 49) rfl) ?_
    refine u_ld (v := iV l5) (pc := 94) (dec_at lsk_271 (k := 50) rfl) rfl ?_
    refine u_iadd (pc := 96) (dec_at lsk_271 (k := 51) rfl) ?_
    refine u_ld (v := iV 1) (pc := 97) (dec_at lsk_271 (k := 52) rfl) rfl ?_
    refine u_isub (pc := 98) (dec_at lsk_271 (k := 53) rfl) ?_
    have g6 := h.1
    have h := h.2
    have g7 := h.1
    have h := h.2
    refine u_iald (pc := 99) (dec_at lsk_271 (k := 54) rfl) sx_277 g6 g7 ?_
    refine u_sto (lv' := [.ref 271, iV l1, iV l2, .retAddr 0, iV l4, iV l5, iV (u.1 277 (((6 * l2) + l5) - 1)), .retAddr 0, .retAddr 0, .retAddr 0, .retAddr 0, .retAddr 0, .retAddr 0, .retAddr 0]) (pc := 100) (dec_at lsk_271 (k := 55) rfl) rfl ?_
    refine u_ld (v := iV 0) (pc := 102) (dec_at lsk_271 (k := 56) rfl) rfl ?_
    refine u_sto (lv' := [.ref 271, iV l1, iV l2, .retAddr 0, iV l4, iV l5, iV (u.1 277 (((6 * l2) + l5) - 1)), iV 0, .retAddr 0, .retAddr 0, .retAddr 0, .retAddr 0, .retAddr 0, .retAddr 0]) (pc := 103) (dec_at lsk_271 (k := 57) rfl) rfl ?_
    exact h
theorem k_271_105 {d : Nat} {Q : uS → Prop} {u : uS} {l1 l2 l4 l5 l6 l7 : Int} (h : (rI l7) ∧ ((rI l4) ∧ (if l7 < l4 then ((0 ≤ (40 * l5) + l7) ∧ (((40 * l5) + l7 < 280) ∧ (∀ u6 : uS, u6 = wr u 328 ((40 * l5) + l7) 6000000000000000000 → (∀ u8 : uS, u8 = wr u6 329 ((40 * l5) + l7) 0 → (∀ u10 : uS, u10 = wr u8 330 ((40 * l5) + l7) 1000000 → (K_271 (d + 1) 105 [.ref 271, iV l1, iV l2, .retAddr 0, iV l4, iV l5, iV l6, iV (l7 + 1), .retAddr 0, .retAddr 0, .retAddr 0, .retAddr 0, .retAddr 0, .retAddr 0] [] u10 Q)))))) else (K_271 (d + 1) 167 [.ref 271, iV l1, iV l2, .retAddr 0, iV l4, iV l5, iV l6, iV 0, .retAddr 0, .retAddr 0, .retAddr 0, .retAddr 0, .retAddr 0, .retAddr 0] [] u Q)))) : K_271 (d + 1) 105 [.ref 271, iV l1, iV l2, .retAddr 0, iV l4, iV l5, iV l6, iV l7, .retAddr 0, .retAddr 0, .retAddr 0, .retAddr 0, .retAddr 0, .retAddr 0] [] u Q := by
  unfold K_271
  refine u_ld (v := iV l7) (pc := 105) (dec_at lsk_271 (k := 58) rfl) rfl ?_
  refine u_ld (v := iV l4) (pc := 107) (dec_at lsk_271 (k := 59) rfl) rfl ?_
  have g1 := h.1
  have h := h.2
  have g2 := h.1
  have h := h.2
  refine u_icF (pc := 109) (tgt := 164) (dec_at lsk_271 (k := 60) rfl) rfl (ci_ge g1 g2) (fun e3 => ?_) (fun e3 => ?_)
  · have h := ifT e3 h
    refine u_ld (v := .ref 271) (pc := 112) (dec_at lsk_271 (k := 61) rfl) rfl ?_
    refine u_gS (o := 57) (p := 328) (pc := 113) (dec_at lsk_271 (k := 62) rfl) f_12_182 sx_271 rfl rfl ?_
    refine u_c (x := 40) (pc := 116) (dec_at lsk_271 (k := 63) rfl) rfl (by decide) ?_
    refine u_ld (v := iV l5) (pc := 118) (dec_at lsk_271 (k := 64) rfl) rfl ?_
    refine u_imul (pc := 120) (dec_at lsk_271 (k := 65) rfl) ?_
    refine u_ld (v := iV l7) (pc := 121) (dec_at lsk_271 (k := 66) rfl) rfl ?_
    refine u_iadd (pc := 123) (dec_at lsk_271 (k := 67) rfl) ?_
    refine u_ldc2 (x := 6000000000000000000) (pc := 124) (dec_at lsk_271 (k := 68) rfl) con_12_487 (by decide) ?_
    have g4 := h.1
    have h := h.2
    have g5 := h.1
    have h := h.2
    refine u_last (pc := 127) (dec_at lsk_271 (k := 69) rfl) sx_328 g4 g5 (fun u6 e7 => ?_)
    have h := h u6 e7
    refine u_ld (v := .ref 271) (pc := 128) (dec_at lsk_271 (k := 70) rfl) rfl ?_
    refine u_gS (o := 58) (p := 329) (pc := 129) (dec_at lsk_271 (k := 71) rfl) f_12_185 sx_271 rfl rfl ?_
    refine u_c (x := 40) (pc := 132) (dec_at lsk_271 (k := 72) rfl) rfl (by decide) ?_
    refine u_ld (v := iV l5) (pc := 134) (dec_at lsk_271 (k := 73) rfl) rfl ?_
    refine u_imul (pc := 136) (dec_at lsk_271 (k := 74) rfl) ?_
    refine u_ld (v := iV l7) (pc := 137) (dec_at lsk_271 (k := 75) rfl) rfl ?_
    refine u_iadd (pc := 139) (dec_at lsk_271 (k := 76) rfl) ?_
    refine u_ld (v := iV 0) (pc := 140) (dec_at lsk_271 (k := 77) rfl) rfl ?_
    refine u_iast (pc := 141) (dec_at lsk_271 (k := 78) rfl) sx_329 g4 g5 (fun u8 e9 => ?_)
    have h := h u8 e9
    refine u_ld (v := .ref 271) (pc := 142) (dec_at lsk_271 (k := 79) rfl) rfl ?_
    refine u_gS (o := 59) (p := 330) (pc := 143) (dec_at lsk_271 (k := 80) rfl) f_12_188 sx_271 rfl rfl ?_
    refine u_c (x := 40) (pc := 146) (dec_at lsk_271 (k := 81) rfl) rfl (by decide) ?_
    refine u_ld (v := iV l5) (pc := 148) (dec_at lsk_271 (k := 82) rfl) rfl ?_
    refine u_imul (pc := 150) (dec_at lsk_271 (k := 83) rfl) ?_
    refine u_ld (v := iV l7) (pc := 151) (dec_at lsk_271 (k := 84) rfl) rfl ?_
    refine u_iadd (pc := 153) (dec_at lsk_271 (k := 85) rfl) ?_
    refine u_ldcw (x := 1000000) (pc := 154) (dec_at lsk_271 (k := 86) rfl) con_12_489 (by decide) ?_
    refine u_iast (pc := 157) (dec_at lsk_271 (k := 87) rfl) sx_330 g4 g5 (fun u10 e11 => ?_)
    have h := h u10 e11
    refine u_inc (lv' := [.ref 271, iV l1, iV l2, .retAddr 0, iV l4, iV l5, iV l6, iV (l7 + 1), .retAddr 0, .retAddr 0, .retAddr 0, .retAddr 0, .retAddr 0, .retAddr 0]) (pc := 158) (dec_at lsk_271 (k := 88) rfl) rfl (by decide) rfl ?_
    refine u_goto (pc := 161) (tgt := 105) (dec_at lsk_271 (k := 89) rfl) rfl ?_
    exact h
  · have h := ifF e3 h
    refine u_ld (v := iV 0) (pc := 164) (dec_at lsk_271 (k := 90) rfl) rfl ?_
    refine u_sto (lv' := [.ref 271, iV l1, iV l2, .retAddr 0, iV l4, iV l5, iV l6, iV 0, .retAddr 0, .retAddr 0, .retAddr 0, .retAddr 0, .retAddr 0, .retAddr 0]) (pc := 165) (dec_at lsk_271 (k := 91) rfl) rfl ?_
    exact h
theorem k_271_167 {d : Nat} {Q : uS → Prop} {u : uS} {l1 l2 l4 l5 l6 l7 : Int} (h : (rI l7) ∧ ((rI l4) ∧ (if l7 < l4 then ((0 ≤ (40 * (l5 - 1)) + l7) ∧ (((40 * (l5 - 1)) + l7 < 280) ∧ ((rL (u.1 328 ((40 * (l5 - 1)) + l7))) ∧ (if u.1 328 ((40 * (l5 - 1)) + l7) = 6000000000000000000 then (K_271 (d + 1) 167 [.ref 271, iV l1, iV l2, .retAddr 0, iV l4, iV l5, iV l6, iV (l7 + 1), .retAddr 0, .retAddr 0, .retAddr 0, .retAddr 0, .retAddr 0, .retAddr 0] [] u Q) else ((rI l6) ∧ (if l6 < 100 then ((0 ≤ ((400 * l1) + (10 * l7)) + l6) ∧ ((((400 * l1) + (10 * l7)) + l6 < 40000) ∧ ((cn 5000000000000000000 (u.1 328 ((40 * (l5 - 1)) + l7))) ∧ ((cn 5000000000000000000 1) ∧ (cV (d + 1) 272 [.ref 271, iV ((40 * l5) + (u.1 302 (((400 * l1) + (10 * l7)) + l6))), lV (pl 5000000000000000000 (u.1 328 ((40 * (l5 - 1)) + l7)) 1), iV (u.1 329 ((40 * (l5 - 1)) + l7)), iV (u.1 330 ((40 * (l5 - 1)) + l7))] u (fun u14 => K_271 (d + 1) 167 [.ref 271, iV l1, iV l2, .retAddr 0, iV l4, iV l5, iV l6, iV (l7 + 1), .retAddr 0, .retAddr 0, .retAddr 0, .retAddr 0, .retAddr 0, .retAddr 0] [] u14 Q)))))) else (K_271 (d + 1) 289 [.ref 271, iV l1, iV l2, .retAddr 0, iV l4, iV l5, iV l6, iV l7, lV (u.1 328 ((40 * (l5 - 1)) + l7)), .retAddr 0, iV (u.1 329 ((40 * (l5 - 1)) + l7)), iV (u.1 330 ((40 * (l5 - 1)) + l7)), iV 0, .retAddr 0] [] u Q))))))) else (K_271 (d + 1) 75 [.ref 271, iV l1, iV l2, .retAddr 0, iV l4, iV (l5 + 1), .retAddr 0, .retAddr 0, .retAddr 0, .retAddr 0, .retAddr 0, .retAddr 0, .retAddr 0, .retAddr 0] [] u Q)))) : K_271 (d + 1) 167 [.ref 271, iV l1, iV l2, .retAddr 0, iV l4, iV l5, iV l6, iV l7, .retAddr 0, .retAddr 0, .retAddr 0, .retAddr 0, .retAddr 0, .retAddr 0] [] u Q := by
  unfold K_271
  refine u_ld (v := iV l7) (pc := 167) (dec_at lsk_271 (k := 92) rfl) rfl ?_
  refine u_ld (v := iV l4) (pc := 169) (dec_at lsk_271 (k := 93) rfl) rfl ?_
  have g1 := h.1
  have h := h.2
  have g2 := h.1
  have h := h.2
  refine u_icF (pc := 171) (tgt := 408) (dec_at lsk_271 (k := 94) rfl) rfl (ci_ge g1 g2) (fun e3 => ?_) (fun e3 => ?_)
  · have h := ifT e3 h
    refine u_ld (v := .ref 271) (pc := 174) (dec_at lsk_271 (k := 95) rfl) rfl ?_
    refine u_gS (o := 57) (p := 328) (pc := 175) (dec_at lsk_271 (k := 96) rfl) f_12_182 sx_271 rfl rfl ?_
    refine u_c (x := 40) (pc := 178) (dec_at lsk_271 (k := 97) rfl) rfl (by decide) ?_
    refine u_ld (v := iV l5) (pc := 180) (dec_at lsk_271 (k := 98) rfl) rfl ?_
    refine u_ld (v := iV 1) (pc := 182) (dec_at lsk_271 (k := 99) rfl) rfl ?_
    refine u_isub (pc := 183) (dec_at lsk_271 (k := 100) rfl) ?_
    refine u_imul (pc := 184) (dec_at lsk_271 (k := 101) rfl) ?_
    refine u_ld (v := iV l7) (pc := 185) (dec_at lsk_271 (k := 102) rfl) rfl ?_
    refine u_iadd (pc := 187) (dec_at lsk_271 (k := 103) rfl) ?_
    have g4 := h.1
    have h := h.2
    have g5 := h.1
    have h := h.2
    refine u_lald (pc := 188) (dec_at lsk_271 (k := 104) rfl) sx_328 g4 g5 ?_
    refine u_sto (lv' := [.ref 271, iV l1, iV l2, .retAddr 0, iV l4, iV l5, iV l6, iV l7, lV (u.1 328 ((40 * (l5 - 1)) + l7)), .retAddr 0, .retAddr 0, .retAddr 0, .retAddr 0, .retAddr 0]) (pc := 189) (dec_at lsk_271 (k := 105) rfl) rfl ?_
    refine u_ld (v := lV (u.1 328 ((40 * (l5 - 1)) + l7))) (pc := 191) (dec_at lsk_271 (k := 106) rfl) rfl ?_
    refine u_ldc2 (x := 6000000000000000000) (pc := 193) (dec_at lsk_271 (k := 107) rfl) con_12_487 (by decide) ?_
    refine u_st (st' := [.int (lg_cmp (Int64.ofInt (u.1 328 ((40 * (l5 - 1)) + l7))) (Int64.ofInt 6000000000000000000))]) (pc := 196) (dec_at lsk_271 (k := 108) rfl) rfl ?_
    have g6 := h.1
    have h := h.2
    refine u_ifF (pc := 197) (tgt := 203) (dec_at lsk_271 (k := 109) rfl) rfl (cl_ne g6 (by decide)) (fun e7 => ?_) (fun e7 => ?_)
    · have h := ifT e7 h
      refine u_goto (pc := 200) (tgt := 402) (dec_at lsk_271 (k := 110) rfl) rfl ?_
      refine u_inc (lv' := [.ref 271, iV l1, iV l2, .retAddr 0, iV l4, iV l5, iV l6, iV (l7 + 1), lV (u.1 328 ((40 * (l5 - 1)) + l7)), .retAddr 0, .retAddr 0, .retAddr 0, .retAddr 0, .retAddr 0]) (pc := 402) (dec_at lsk_271 (k := 218) rfl) rfl (by decide) rfl ?_
      refine u_goto (pc := 405) (tgt := 167) (dec_at lsk_271 (k := 219) rfl) rfl ?_
      exact u_weak (sbK (sbK (sbK (sbK (sbK (sbK (sbK (sbK (sbD (sbK (sbK (sbK (sbK (sbK sb0)))))))))))))) h
    · have h := ifF e7 h
      refine u_ld (v := .ref 271) (pc := 203) (dec_at lsk_271 (k := 111) rfl) rfl ?_
      refine u_gS (o := 58) (p := 329) (pc := 204) (dec_at lsk_271 (k := 112) rfl) f_12_185 sx_271 rfl rfl ?_
      refine u_c (x := 40) (pc := 207) (dec_at lsk_271 (k := 113) rfl) rfl (by decide) ?_
      refine u_ld (v := iV l5) (pc := 209) (dec_at lsk_271 (k := 114) rfl) rfl ?_
      refine u_ld (v := iV 1) (pc := 211) (dec_at lsk_271 (k := 115) rfl) rfl ?_
      refine u_isub (pc := 212) (dec_at lsk_271 (k := 116) rfl) ?_
      refine u_imul (pc := 213) (dec_at lsk_271 (k := 117) rfl) ?_
      refine u_ld (v := iV l7) (pc := 214) (dec_at lsk_271 (k := 118) rfl) rfl ?_
      refine u_iadd (pc := 216) (dec_at lsk_271 (k := 119) rfl) ?_
      refine u_iald (pc := 217) (dec_at lsk_271 (k := 120) rfl) sx_329 g4 g5 ?_
      refine u_sto (lv' := [.ref 271, iV l1, iV l2, .retAddr 0, iV l4, iV l5, iV l6, iV l7, lV (u.1 328 ((40 * (l5 - 1)) + l7)), .retAddr 0, iV (u.1 329 ((40 * (l5 - 1)) + l7)), .retAddr 0, .retAddr 0, .retAddr 0]) (pc := 218) (dec_at lsk_271 (k := 121) rfl) rfl ?_
      refine u_ld (v := .ref 271) (pc := 220) (dec_at lsk_271 (k := 122) rfl) rfl ?_
      refine u_gS (o := 59) (p := 330) (pc := 221) (dec_at lsk_271 (k := 123) rfl) f_12_188 sx_271 rfl rfl ?_
      refine u_c (x := 40) (pc := 224) (dec_at lsk_271 (k := 124) rfl) rfl (by decide) ?_
      refine u_ld (v := iV l5) (pc := 226) (dec_at lsk_271 (k := 125) rfl) rfl ?_
      refine u_ld (v := iV 1) (pc := 228) (dec_at lsk_271 (k := 126) rfl) rfl ?_
      refine u_isub (pc := 229) (dec_at lsk_271 (k := 127) rfl) ?_
      refine u_imul (pc := 230) (dec_at lsk_271 (k := 128) rfl) ?_
      refine u_ld (v := iV l7) (pc := 231) (dec_at lsk_271 (k := 129) rfl) rfl ?_
      refine u_iadd (pc := 233) (dec_at lsk_271 (k := 130) rfl) ?_
      refine u_iald (pc := 234) (dec_at lsk_271 (k := 131) rfl) sx_330 g4 g5 ?_
      refine u_sto (lv' := [.ref 271, iV l1, iV l2, .retAddr 0, iV l4, iV l5, iV l6, iV l7, lV (u.1 328 ((40 * (l5 - 1)) + l7)), .retAddr 0, iV (u.1 329 ((40 * (l5 - 1)) + l7)), iV (u.1 330 ((40 * (l5 - 1)) + l7)), .retAddr 0, .retAddr 0]) (pc := 235) (dec_at lsk_271 (k := 132) rfl) rfl ?_
      refine u_ld (v := iV l6) (pc := 237) (dec_at lsk_271 (k := 133) rfl) rfl ?_
      refine u_c (x := 100) (pc := 239) (dec_at lsk_271 (k := 134) rfl) rfl (by decide) ?_
      have g8 := h.1
      have h := h.2
      refine u_icF (pc := 241) (tgt := 286) (dec_at lsk_271 (k := 135) rfl) rfl (ci_ge g8 (by decide)) (fun e9 => ?_) (fun e9 => ?_)
      · have h := ifT e9 h
        refine u_ld (v := .ref 271) (pc := 244) (dec_at lsk_271 (k := 136) rfl) rfl ?_
        refine u_c (x := 40) (pc := 245) (dec_at lsk_271 (k := 137) rfl) rfl (by decide) ?_
        refine u_ld (v := iV l5) (pc := 247) (dec_at lsk_271 (k := 138) rfl) rfl ?_
        refine u_imul (pc := 249) (dec_at lsk_271 (k := 139) rfl) ?_
        refine u_ld (v := .ref 271) (pc := 250) (dec_at lsk_271 (k := 140) rfl) rfl ?_
        refine u_gS (o := 31) (p := 302) (pc := 251) (dec_at lsk_271 (k := 141) rfl) f_12_103 sx_271 rfl rfl ?_
        refine u_c (x := 400) (pc := 254) (dec_at lsk_271 (k := 142) rfl) rfl (by decide) ?_
        refine u_ld (v := iV l1) (pc := 257) (dec_at lsk_271 (k := 143) rfl) rfl ?_
        refine u_imul (pc := 258) (dec_at lsk_271 (k := 144) rfl) ?_
        refine u_c (x := 10) (pc := 259) (dec_at lsk_271 (k := 145) rfl) rfl (by decide) ?_
        refine u_ld (v := iV l7) (pc := 261) (dec_at lsk_271 (k := 146) rfl) rfl ?_
        refine u_imul (pc := 263) (dec_at lsk_271 (k := 147) rfl) ?_
        refine u_iadd (pc := 264) (dec_at lsk_271 (k := 148) rfl) ?_
        refine u_ld (v := iV l6) (pc := 265) (dec_at lsk_271 (k := 149) rfl) rfl ?_
        refine u_iadd (pc := 267) (dec_at lsk_271 (k := 150) rfl) ?_
        have g10 := h.1
        have h := h.2
        have g11 := h.1
        have h := h.2
        refine u_iald (pc := 268) (dec_at lsk_271 (k := 151) rfl) sx_302 g10 g11 ?_
        refine u_iadd (pc := 269) (dec_at lsk_271 (k := 152) rfl) ?_
        refine u_ld (v := lV (u.1 328 ((40 * (l5 - 1)) + l7))) (pc := 270) (dec_at lsk_271 (k := 153) rfl) rfl ?_
        refine u_cl (x := 1) (pc := 272) (dec_at lsk_271 (k := 154) rfl) rfl (by decide) ?_
        have g12 := h.1
        have h := h.2
        have g13 := h.1
        have h := h.2
        refine u_csL (As := [lV (u.1 328 ((40 * (l5 - 1)) + l7)), lV 1]) (st2 := [iV ((40 * l5) + (u.1 302 (((400 * l1) + (10 * l7)) + l6))), .ref 271]) (pc := 273) (dec_at lsk_271 (k := 155) rfl) m_12_323 (Or.inl rfl) rfl (Nat.le_of_ble_eq_true rfl) (p_217 g12 g13) (fun r_ u_ h_ => ?_)
        rw [h_.1, h_.2]
        refine u_ld (v := iV (u.1 329 ((40 * (l5 - 1)) + l7))) (pc := 276) (dec_at lsk_271 (k := 156) rfl) rfl ?_
        refine u_ld (v := iV (u.1 330 ((40 * (l5 - 1)) + l7))) (pc := 278) (dec_at lsk_271 (k := 157) rfl) rfl ?_
        refine u_cvV (As := [iV ((40 * l5) + (u.1 302 (((400 * l1) + (10 * l7)) + l6))), lV (pl 5000000000000000000 (u.1 328 ((40 * (l5 - 1)) + l7)) 1), iV (u.1 329 ((40 * (l5 - 1)) + l7)), iV (u.1 330 ((40 * (l5 - 1)) + l7))]) (rb := 271) (st2 := []) (pc := 280) (dec_at lsk_271 (k := 158) rfl) m_12_490 (Or.inl rfl) rfl (Nat.le_of_ble_eq_true rfl) sx_271 me_272 rfl h (fun u14 h => ?_)
        refine u_goto (pc := 283) (tgt := 402) (dec_at lsk_271 (k := 159) rfl) rfl ?_
        refine u_inc (lv' := [.ref 271, iV l1, iV l2, .retAddr 0, iV l4, iV l5, iV l6, iV (l7 + 1), lV (u.1 328 ((40 * (l5 - 1)) + l7)), .retAddr 0, iV (u.1 329 ((40 * (l5 - 1)) + l7)), iV (u.1 330 ((40 * (l5 - 1)) + l7)), .retAddr 0, .retAddr 0]) (pc := 402) (dec_at lsk_271 (k := 218) rfl) rfl (by decide) rfl ?_
        refine u_goto (pc := 405) (tgt := 167) (dec_at lsk_271 (k := 219) rfl) rfl ?_
        exact u_weak (sbK (sbK (sbK (sbK (sbK (sbK (sbK (sbK (sbD (sbK (sbD (sbD (sbK (sbK sb0)))))))))))))) h
      · have h := ifF e9 h
        refine u_ld (v := iV 0) (pc := 286) (dec_at lsk_271 (k := 160) rfl) rfl ?_
        refine u_sto (lv' := [.ref 271, iV l1, iV l2, .retAddr 0, iV l4, iV l5, iV l6, iV l7, lV (u.1 328 ((40 * (l5 - 1)) + l7)), .retAddr 0, iV (u.1 329 ((40 * (l5 - 1)) + l7)), iV (u.1 330 ((40 * (l5 - 1)) + l7)), iV 0, .retAddr 0]) (pc := 287) (dec_at lsk_271 (k := 161) rfl) rfl ?_
        exact h
  · have h := ifF e3 h
    refine u_inc (lv' := [.ref 271, iV l1, iV l2, .retAddr 0, iV l4, iV (l5 + 1), iV l6, iV l7, .retAddr 0, .retAddr 0, .retAddr 0, .retAddr 0, .retAddr 0, .retAddr 0]) (pc := 408) (dec_at lsk_271 (k := 220) rfl) rfl (by decide) rfl ?_
    refine u_goto (pc := 411) (tgt := 75) (dec_at lsk_271 (k := 221) rfl) rfl ?_
    exact u_weak (sbK (sbK (sbK (sbK (sbK (sbK (sbD (sbD (sbK (sbK (sbK (sbK (sbK (sbK sb0)))))))))))))) h
theorem k_271_289 {d : Nat} {Q : uS → Prop} {u : uS} {l1 l2 l4 l5 l6 l7 l8 l10 l11 l12 : Int} (h : (rI l12) ∧ ((rI l4) ∧ (if l12 < l4 then ((0 ≤ (((10 * l7) + (l6 - 100)) * 40) + l12) ∧ (((((10 * l7) + (l6 - 100)) * 40) + l12 < 16000) ∧ ((rL (u.1 324 ((((10 * l7) + (l6 - 100)) * 40) + l12))) ∧ (if u.1 324 ((((10 * l7) + (l6 - 100)) * 40) + l12) = 6000000000000000000 then (K_271 (d + 1) 289 [.ref 271, iV l1, iV l2, .retAddr 0, iV l4, iV l5, iV l6, iV l7, lV l8, .retAddr 0, iV l10, iV l11, iV (l12 + 1), .retAddr 0] [] u Q) else ((cn 5000000000000000000 l8) ∧ ((cn 5000000000000000000 (u.1 324 ((((10 * l7) + (l6 - 100)) * 40) + l12))) ∧ ((rI (u.1 325 ((((10 * l7) + (l6 - 100)) * 40) + l12))) ∧ ((rI l10) ∧ (if l10 < u.1 325 ((((10 * l7) + (l6 - 100)) * 40) + l12) then ((rI l11) ∧ (if l11 < u.1 325 ((((10 * l7) + (l6 - 100)) * 40) + l12) then (cV (d + 1) 272 [.ref 271, iV ((40 * l5) + l12), lV (pl 5000000000000000000 l8 (u.1 324 ((((10 * l7) + (l6 - 100)) * 40) + l12))), iV (u.1 325 ((((10 * l7) + (l6 - 100)) * 40) + l12)), iV (u.1 325 ((((10 * l7) + (l6 - 100)) * 40) + l12))] u (fun u15 => K_271 (d + 1) 289 [.ref 271, iV l1, iV l2, .retAddr 0, iV l4, iV l5, iV l6, iV l7, lV l8, .retAddr 0, iV l10, iV l11, iV (l12 + 1), .retAddr 0] [] u15 Q)) else (cV (d + 1) 272 [.ref 271, iV ((40 * l5) + l12), lV (pl 5000000000000000000 l8 (u.1 324 ((((10 * l7) + (l6 - 100)) * 40) + l12))), iV (u.1 325 ((((10 * l7) + (l6 - 100)) * 40) + l12)), iV l11] u (fun u16 => K_271 (d + 1) 289 [.ref 271, iV l1, iV l2, .retAddr 0, iV l4, iV l5, iV l6, iV l7, lV l8, .retAddr 0, iV l10, iV l11, iV (l12 + 1), .retAddr 0] [] u16 Q)))) else ((rI l11) ∧ (if l11 < u.1 325 ((((10 * l7) + (l6 - 100)) * 40) + l12) then (cV (d + 1) 272 [.ref 271, iV ((40 * l5) + l12), lV (pl 5000000000000000000 l8 (u.1 324 ((((10 * l7) + (l6 - 100)) * 40) + l12))), iV l10, iV (u.1 325 ((((10 * l7) + (l6 - 100)) * 40) + l12))] u (fun u19 => K_271 (d + 1) 289 [.ref 271, iV l1, iV l2, .retAddr 0, iV l4, iV l5, iV l6, iV l7, lV l8, .retAddr 0, iV l10, iV l11, iV (l12 + 1), .retAddr 0] [] u19 Q)) else (cV (d + 1) 272 [.ref 271, iV ((40 * l5) + l12), lV (pl 5000000000000000000 l8 (u.1 324 ((((10 * l7) + (l6 - 100)) * 40) + l12))), iV l10, iV l11] u (fun u20 => K_271 (d + 1) 289 [.ref 271, iV l1, iV l2, .retAddr 0, iV l4, iV l5, iV l6, iV l7, lV l8, .retAddr 0, iV l10, iV l11, iV (l12 + 1), .retAddr 0] [] u20 Q))))))))))))) else (K_271 (d + 1) 167 [.ref 271, iV l1, iV l2, .retAddr 0, iV l4, iV l5, iV l6, iV (l7 + 1), .retAddr 0, .retAddr 0, .retAddr 0, .retAddr 0, .retAddr 0, .retAddr 0] [] u Q)))) : K_271 (d + 1) 289 [.ref 271, iV l1, iV l2, .retAddr 0, iV l4, iV l5, iV l6, iV l7, lV l8, .retAddr 0, iV l10, iV l11, iV l12, .retAddr 0] [] u Q := by
  unfold K_271
  refine u_ld (v := iV l12) (pc := 289) (dec_at lsk_271 (k := 162) rfl) rfl ?_
  refine u_ld (v := iV l4) (pc := 291) (dec_at lsk_271 (k := 163) rfl) rfl ?_
  have g1 := h.1
  have h := h.2
  have g2 := h.1
  have h := h.2
  refine u_icF (pc := 293) (tgt := 402) (dec_at lsk_271 (k := 164) rfl) rfl (ci_ge g1 g2) (fun e3 => ?_) (fun e3 => ?_)
  · have h := ifT e3 h
    refine u_ld (v := iV l7) (pc := 296) (dec_at lsk_271 (k := 165) rfl) rfl ?_
    refine u_ld (v := iV l6) (pc := 298) (dec_at lsk_271 (k := 166) rfl) rfl ?_
    refine u_c (x := 100) (pc := 300) (dec_at lsk_271 (k := 167) rfl) rfl (by decide) ?_
    refine u_isub (pc := 302) (dec_at lsk_271 (k := 168) rfl) ?_
    refine u_ld (v := iV l12) (pc := 303) (dec_at lsk_271 (k := 169) rfl) rfl ?_
    refine u_csI (As := [iV l7, iV (l6 - 100), iV l12]) (st2 := []) (pc := 305) (dec_at lsk_271 (k := 170) rfl) m_12_494 (Or.inl rfl) rfl (Nat.le_of_ble_eq_true rfl) ?_ (fun _ _ h_ => h_)
    refine u_of me_274 (Nat.le_of_ble_eq_true rfl) ?_
    refine u_c (x := 10) (pc := 0) (dec_at lsk_274 (k := 0) rfl) rfl (by decide) ?_
    refine u_ld (v := iV l7) (pc := 2) (dec_at lsk_274 (k := 1) rfl) rfl ?_
    refine u_imul (pc := 3) (dec_at lsk_274 (k := 2) rfl) ?_
    refine u_ld (v := iV (l6 - 100)) (pc := 4) (dec_at lsk_274 (k := 3) rfl) rfl ?_
    refine u_iadd (pc := 5) (dec_at lsk_274 (k := 4) rfl) ?_
    refine u_c (x := 40) (pc := 6) (dec_at lsk_274 (k := 5) rfl) rfl (by decide) ?_
    refine u_imul (pc := 8) (dec_at lsk_274 (k := 6) rfl) ?_
    refine u_ld (v := iV l12) (pc := 9) (dec_at lsk_274 (k := 7) rfl) rfl ?_
    refine u_iadd (pc := 10) (dec_at lsk_274 (k := 8) rfl) ?_
    refine u_rI (pc := 11) (dec_at lsk_274 (k := 9) rfl) rfl ?_
    refine u_sto (lv' := [.ref 271, iV l1, iV l2, .retAddr 0, iV l4, iV l5, iV l6, iV l7, lV l8, .retAddr 0, iV l10, iV l11, iV l12, iV ((((10 * l7) + (l6 - 100)) * 40) + l12)]) (pc := 308) (dec_at lsk_271 (k := 171) rfl) rfl ?_
    refine u_ld (v := .ref 271) (pc := 310) (dec_at lsk_271 (k := 172) rfl) rfl ?_
    refine u_gS (o := 53) (p := 324) (pc := 311) (dec_at lsk_271 (k := 173) rfl) f_12_169 sx_271 rfl rfl ?_
    refine u_ld (v := iV ((((10 * l7) + (l6 - 100)) * 40) + l12)) (pc := 314) (dec_at lsk_271 (k := 174) rfl) rfl ?_
    have g4 := h.1
    have h := h.2
    have g5 := h.1
    have h := h.2
    refine u_lald (pc := 316) (dec_at lsk_271 (k := 175) rfl) sx_324 g4 g5 ?_
    refine u_ldc2 (x := 6000000000000000000) (pc := 317) (dec_at lsk_271 (k := 176) rfl) con_12_487 (by decide) ?_
    refine u_st (st' := [.int (lg_cmp (Int64.ofInt (u.1 324 ((((10 * l7) + (l6 - 100)) * 40) + l12))) (Int64.ofInt 6000000000000000000))]) (pc := 320) (dec_at lsk_271 (k := 177) rfl) rfl ?_
    have g6 := h.1
    have h := h.2
    refine u_ifT (pc := 321) (tgt := 396) (dec_at lsk_271 (k := 178) rfl) rfl (cl_eq g6 (by decide)) (fun e7 => ?_) (fun e7 => ?_)
    · have h := ifT e7 h
      refine u_inc (lv' := [.ref 271, iV l1, iV l2, .retAddr 0, iV l4, iV l5, iV l6, iV l7, lV l8, .retAddr 0, iV l10, iV l11, iV (l12 + 1), iV ((((10 * l7) + (l6 - 100)) * 40) + l12)]) (pc := 396) (dec_at lsk_271 (k := 216) rfl) rfl (by decide) rfl ?_
      refine u_goto (pc := 399) (tgt := 289) (dec_at lsk_271 (k := 217) rfl) rfl ?_
      exact u_weak (sbK (sbK (sbK (sbK (sbK (sbK (sbK (sbK (sbK (sbK (sbK (sbK (sbK (sbD sb0)))))))))))))) h
    · have h := ifF e7 h
      refine u_ld (v := .ref 271) (pc := 324) (dec_at lsk_271 (k := 179) rfl) rfl ?_
      refine u_c (x := 40) (pc := 325) (dec_at lsk_271 (k := 180) rfl) rfl (by decide) ?_
      refine u_ld (v := iV l5) (pc := 327) (dec_at lsk_271 (k := 181) rfl) rfl ?_
      refine u_imul (pc := 329) (dec_at lsk_271 (k := 182) rfl) ?_
      refine u_ld (v := iV l12) (pc := 330) (dec_at lsk_271 (k := 183) rfl) rfl ?_
      refine u_iadd (pc := 332) (dec_at lsk_271 (k := 184) rfl) ?_
      refine u_ld (v := lV l8) (pc := 333) (dec_at lsk_271 (k := 185) rfl) rfl ?_
      refine u_ld (v := .ref 271) (pc := 335) (dec_at lsk_271 (k := 186) rfl) rfl ?_
      refine u_gS (o := 53) (p := 324) (pc := 336) (dec_at lsk_271 (k := 187) rfl) f_12_169 sx_271 rfl rfl ?_
      refine u_ld (v := iV ((((10 * l7) + (l6 - 100)) * 40) + l12)) (pc := 339) (dec_at lsk_271 (k := 188) rfl) rfl ?_
      refine u_lald (pc := 341) (dec_at lsk_271 (k := 189) rfl) sx_324 g4 g5 ?_
      have g8 := h.1
      have h := h.2
      have g9 := h.1
      have h := h.2
      refine u_csL (As := [lV l8, lV (u.1 324 ((((10 * l7) + (l6 - 100)) * 40) + l12))]) (st2 := [iV ((40 * l5) + l12), .ref 271]) (pc := 342) (dec_at lsk_271 (k := 190) rfl) m_12_323 (Or.inl rfl) rfl (Nat.le_of_ble_eq_true rfl) (p_217 g8 g9) (fun r_ u_ h_ => ?_)
      rw [h_.1, h_.2]
      refine u_ld (v := .ref 271) (pc := 345) (dec_at lsk_271 (k := 191) rfl) rfl ?_
      refine u_gS (o := 54) (p := 325) (pc := 346) (dec_at lsk_271 (k := 192) rfl) f_12_172 sx_271 rfl rfl ?_
      refine u_ld (v := iV ((((10 * l7) + (l6 - 100)) * 40) + l12)) (pc := 349) (dec_at lsk_271 (k := 193) rfl) rfl ?_
      refine u_iald (pc := 351) (dec_at lsk_271 (k := 194) rfl) sx_325 g4 g5 ?_
      refine u_ld (v := iV l10) (pc := 352) (dec_at lsk_271 (k := 195) rfl) rfl ?_
      have g10 := h.1
      have h := h.2
      have g11 := h.1
      have h := h.2
      refine u_icF (pc := 354) (tgt := 367) (dec_at lsk_271 (k := 196) rfl) rfl (ci_le g10 g11) (fun e12 => ?_) (fun e12 => ?_)
      · have h := ifT e12 h
        refine u_ld (v := .ref 271) (pc := 357) (dec_at lsk_271 (k := 197) rfl) rfl ?_
        refine u_gS (o := 54) (p := 325) (pc := 358) (dec_at lsk_271 (k := 198) rfl) f_12_172 sx_271 rfl rfl ?_
        refine u_ld (v := iV ((((10 * l7) + (l6 - 100)) * 40) + l12)) (pc := 361) (dec_at lsk_271 (k := 199) rfl) rfl ?_
        refine u_iald (pc := 363) (dec_at lsk_271 (k := 200) rfl) sx_325 g4 g5 ?_
        refine u_goto (pc := 364) (tgt := 369) (dec_at lsk_271 (k := 201) rfl) rfl ?_
        refine u_ld (v := .ref 271) (pc := 369) (dec_at lsk_271 (k := 203) rfl) rfl ?_
        refine u_gS (o := 54) (p := 325) (pc := 370) (dec_at lsk_271 (k := 204) rfl) f_12_172 sx_271 rfl rfl ?_
        refine u_ld (v := iV ((((10 * l7) + (l6 - 100)) * 40) + l12)) (pc := 373) (dec_at lsk_271 (k := 205) rfl) rfl ?_
        refine u_iald (pc := 375) (dec_at lsk_271 (k := 206) rfl) sx_325 g4 g5 ?_
        refine u_ld (v := iV l11) (pc := 376) (dec_at lsk_271 (k := 207) rfl) rfl ?_
        have g13 := h.1
        have h := h.2
        refine u_icF (pc := 378) (tgt := 391) (dec_at lsk_271 (k := 208) rfl) rfl (ci_le g10 g13) (fun e14 => ?_) (fun e14 => ?_)
        · have h := ifT e14 h
          refine u_ld (v := .ref 271) (pc := 381) (dec_at lsk_271 (k := 209) rfl) rfl ?_
          refine u_gS (o := 54) (p := 325) (pc := 382) (dec_at lsk_271 (k := 210) rfl) f_12_172 sx_271 rfl rfl ?_
          refine u_ld (v := iV ((((10 * l7) + (l6 - 100)) * 40) + l12)) (pc := 385) (dec_at lsk_271 (k := 211) rfl) rfl ?_
          refine u_iald (pc := 387) (dec_at lsk_271 (k := 212) rfl) sx_325 g4 g5 ?_
          refine u_goto (pc := 388) (tgt := 393) (dec_at lsk_271 (k := 213) rfl) rfl ?_
          refine u_cvV (As := [iV ((40 * l5) + l12), lV (pl 5000000000000000000 l8 (u.1 324 ((((10 * l7) + (l6 - 100)) * 40) + l12))), iV (u.1 325 ((((10 * l7) + (l6 - 100)) * 40) + l12)), iV (u.1 325 ((((10 * l7) + (l6 - 100)) * 40) + l12))]) (rb := 271) (st2 := []) (pc := 393) (dec_at lsk_271 (k := 215) rfl) m_12_490 (Or.inl rfl) rfl (Nat.le_of_ble_eq_true rfl) sx_271 me_272 rfl h (fun u15 h => ?_)
          refine u_inc (lv' := [.ref 271, iV l1, iV l2, .retAddr 0, iV l4, iV l5, iV l6, iV l7, lV l8, .retAddr 0, iV l10, iV l11, iV (l12 + 1), iV ((((10 * l7) + (l6 - 100)) * 40) + l12)]) (pc := 396) (dec_at lsk_271 (k := 216) rfl) rfl (by decide) rfl ?_
          refine u_goto (pc := 399) (tgt := 289) (dec_at lsk_271 (k := 217) rfl) rfl ?_
          exact u_weak (sbK (sbK (sbK (sbK (sbK (sbK (sbK (sbK (sbK (sbK (sbK (sbK (sbK (sbD sb0)))))))))))))) h
        · have h := ifF e14 h
          refine u_ld (v := iV l11) (pc := 391) (dec_at lsk_271 (k := 214) rfl) rfl ?_
          refine u_cvV (As := [iV ((40 * l5) + l12), lV (pl 5000000000000000000 l8 (u.1 324 ((((10 * l7) + (l6 - 100)) * 40) + l12))), iV (u.1 325 ((((10 * l7) + (l6 - 100)) * 40) + l12)), iV l11]) (rb := 271) (st2 := []) (pc := 393) (dec_at lsk_271 (k := 215) rfl) m_12_490 (Or.inl rfl) rfl (Nat.le_of_ble_eq_true rfl) sx_271 me_272 rfl h (fun u16 h => ?_)
          refine u_inc (lv' := [.ref 271, iV l1, iV l2, .retAddr 0, iV l4, iV l5, iV l6, iV l7, lV l8, .retAddr 0, iV l10, iV l11, iV (l12 + 1), iV ((((10 * l7) + (l6 - 100)) * 40) + l12)]) (pc := 396) (dec_at lsk_271 (k := 216) rfl) rfl (by decide) rfl ?_
          refine u_goto (pc := 399) (tgt := 289) (dec_at lsk_271 (k := 217) rfl) rfl ?_
          exact u_weak (sbK (sbK (sbK (sbK (sbK (sbK (sbK (sbK (sbK (sbK (sbK (sbK (sbK (sbD sb0)))))))))))))) h
      · have h := ifF e12 h
        refine u_ld (v := iV l10) (pc := 367) (dec_at lsk_271 (k := 202) rfl) rfl ?_
        refine u_ld (v := .ref 271) (pc := 369) (dec_at lsk_271 (k := 203) rfl) rfl ?_
        refine u_gS (o := 54) (p := 325) (pc := 370) (dec_at lsk_271 (k := 204) rfl) f_12_172 sx_271 rfl rfl ?_
        refine u_ld (v := iV ((((10 * l7) + (l6 - 100)) * 40) + l12)) (pc := 373) (dec_at lsk_271 (k := 205) rfl) rfl ?_
        refine u_iald (pc := 375) (dec_at lsk_271 (k := 206) rfl) sx_325 g4 g5 ?_
        refine u_ld (v := iV l11) (pc := 376) (dec_at lsk_271 (k := 207) rfl) rfl ?_
        have g17 := h.1
        have h := h.2
        refine u_icF (pc := 378) (tgt := 391) (dec_at lsk_271 (k := 208) rfl) rfl (ci_le g10 g17) (fun e18 => ?_) (fun e18 => ?_)
        · have h := ifT e18 h
          refine u_ld (v := .ref 271) (pc := 381) (dec_at lsk_271 (k := 209) rfl) rfl ?_
          refine u_gS (o := 54) (p := 325) (pc := 382) (dec_at lsk_271 (k := 210) rfl) f_12_172 sx_271 rfl rfl ?_
          refine u_ld (v := iV ((((10 * l7) + (l6 - 100)) * 40) + l12)) (pc := 385) (dec_at lsk_271 (k := 211) rfl) rfl ?_
          refine u_iald (pc := 387) (dec_at lsk_271 (k := 212) rfl) sx_325 g4 g5 ?_
          refine u_goto (pc := 388) (tgt := 393) (dec_at lsk_271 (k := 213) rfl) rfl ?_
          refine u_cvV (As := [iV ((40 * l5) + l12), lV (pl 5000000000000000000 l8 (u.1 324 ((((10 * l7) + (l6 - 100)) * 40) + l12))), iV l10, iV (u.1 325 ((((10 * l7) + (l6 - 100)) * 40) + l12))]) (rb := 271) (st2 := []) (pc := 393) (dec_at lsk_271 (k := 215) rfl) m_12_490 (Or.inl rfl) rfl (Nat.le_of_ble_eq_true rfl) sx_271 me_272 rfl h (fun u19 h => ?_)
          refine u_inc (lv' := [.ref 271, iV l1, iV l2, .retAddr 0, iV l4, iV l5, iV l6, iV l7, lV l8, .retAddr 0, iV l10, iV l11, iV (l12 + 1), iV ((((10 * l7) + (l6 - 100)) * 40) + l12)]) (pc := 396) (dec_at lsk_271 (k := 216) rfl) rfl (by decide) rfl ?_
          refine u_goto (pc := 399) (tgt := 289) (dec_at lsk_271 (k := 217) rfl) rfl ?_
          exact u_weak (sbK (sbK (sbK (sbK (sbK (sbK (sbK (sbK (sbK (sbK (sbK (sbK (sbK (sbD sb0)))))))))))))) h
        · have h := ifF e18 h
          refine u_ld (v := iV l11) (pc := 391) (dec_at lsk_271 (k := 214) rfl) rfl ?_
          refine u_cvV (As := [iV ((40 * l5) + l12), lV (pl 5000000000000000000 l8 (u.1 324 ((((10 * l7) + (l6 - 100)) * 40) + l12))), iV l10, iV l11]) (rb := 271) (st2 := []) (pc := 393) (dec_at lsk_271 (k := 215) rfl) m_12_490 (Or.inl rfl) rfl (Nat.le_of_ble_eq_true rfl) sx_271 me_272 rfl h (fun u20 h => ?_)
          refine u_inc (lv' := [.ref 271, iV l1, iV l2, .retAddr 0, iV l4, iV l5, iV l6, iV l7, lV l8, .retAddr 0, iV l10, iV l11, iV (l12 + 1), iV ((((10 * l7) + (l6 - 100)) * 40) + l12)]) (pc := 396) (dec_at lsk_271 (k := 216) rfl) rfl (by decide) rfl ?_
          refine u_goto (pc := 399) (tgt := 289) (dec_at lsk_271 (k := 217) rfl) rfl ?_
          exact u_weak (sbK (sbK (sbK (sbK (sbK (sbK (sbK (sbK (sbK (sbK (sbK (sbK (sbK (sbD sb0)))))))))))))) h
  · have h := ifF e3 h
    refine u_inc (lv' := [.ref 271, iV l1, iV l2, .retAddr 0, iV l4, iV l5, iV l6, iV (l7 + 1), lV l8, .retAddr 0, iV l10, iV l11, iV l12, .retAddr 0]) (pc := 402) (dec_at lsk_271 (k := 218) rfl) rfl (by decide) rfl ?_
    refine u_goto (pc := 405) (tgt := 167) (dec_at lsk_271 (k := 219) rfl) rfl ?_
    exact u_weak (sbK (sbK (sbK (sbK (sbK (sbK (sbK (sbK (sbD (sbK (sbD (sbD (sbD (sbK sb0)))))))))))))) h
/-- method 272 -/
def K_272 (d pc : Nat) (lv : ev_L) (st : List Value) (u : uS) (Q : uS → Prop) : Prop := okU d 12 6 false none prog_14_method_73_code (qV Q) pc lv st u
theorem e_272 {d : Nat} {Q : uS → Prop} {u : uS} {l1 l2 l4 l5 : Int} (h : (0 ≤ l1) ∧ ((l1 < 280) ∧ ((rI l5) ∧ ((rI (u.1 330 l1)) ∧ (if l5 < u.1 330 l1 then (∀ u6 : uS, u6 = wr u 330 l1 l5 → ((rL l2) ∧ ((rL (u6.1 328 l1)) ∧ (if l2 < u6.1 328 l1 then (∀ u11 : uS, u11 = wr u6 328 l1 l2 → (∀ u13 : uS, u13 = wr u11 329 l1 l4 → (Q u13))) else (if l2 = u6.1 328 l1 then ((rI l4) ∧ ((rI (u6.1 329 l1)) ∧ (if l4 < u6.1 329 l1 then (∀ u19 : uS, u19 = wr u6 328 l1 l2 → (∀ u21 : uS, u21 = wr u19 329 l1 l4 → (Q u21))) else (Q u6)))) else (Q u6)))))) else (∀ u23 : uS, u23 = wr u 330 l1 (u.1 330 l1) → ((rL l2) ∧ ((rL (u23.1 328 l1)) ∧ (if l2 < u23.1 328 l1 then (∀ u28 : uS, u28 = wr u23 328 l1 l2 → (∀ u30 : uS, u30 = wr u28 329 l1 l4 → (Q u30))) else (if l2 = u23.1 328 l1 then ((rI l4) ∧ ((rI (u23.1 329 l1)) ∧ (if l4 < u23.1 329 l1 then (∀ u36 : uS, u36 = wr u23 328 l1 l2 → (∀ u38 : uS, u38 = wr u36 329 l1 l4 → (Q u38))) else (Q u23)))) else (Q u23))))))))))) : cV (d + 2) 272 [.ref 271, iV l1, lV l2, iV l4, iV l5] u Q := by
  refine u_of me_272 (Nat.le_of_ble_eq_true rfl) ?_
  refine u_ld (v := .ref 271) (pc := 0) (dec_at lsk_272 (k := 0) rfl) rfl ?_
  refine u_gS (o := 59) (p := 330) (pc := 1) (dec_at lsk_272 (k := 1) rfl) f_12_188 sx_271 rfl rfl ?_
  refine u_ld (v := iV l1) (pc := 4) (dec_at lsk_272 (k := 2) rfl) rfl ?_
  refine u_ld (v := iV l5) (pc := 5) (dec_at lsk_272 (k := 3) rfl) rfl ?_
  refine u_ld (v := .ref 271) (pc := 7) (dec_at lsk_272 (k := 4) rfl) rfl ?_
  refine u_gS (o := 59) (p := 330) (pc := 8) (dec_at lsk_272 (k := 5) rfl) f_12_188 sx_271 rfl rfl ?_
  refine u_ld (v := iV l1) (pc := 11) (dec_at lsk_272 (k := 6) rfl) rfl ?_
  have g1 := h.1
  have h := h.2
  have g2 := h.1
  have h := h.2
  refine u_iald (pc := 12) (dec_at lsk_272 (k := 7) rfl) sx_330 g1 g2 ?_
  have g3 := h.1
  have h := h.2
  have g4 := h.1
  have h := h.2
  refine u_icF (pc := 13) (tgt := 21) (dec_at lsk_272 (k := 8) rfl) rfl (ci_ge g3 g4) (fun e5 => ?_) (fun e5 => ?_)
  · have h := ifT e5 h
    refine u_ld (v := iV l5) (pc := 16) (dec_at lsk_272 (k := 9) rfl) rfl ?_
    refine u_goto (pc := 18) (tgt := 27) (dec_at lsk_272 (k := 10) rfl) rfl ?_
    refine u_iast (pc := 27) (dec_at lsk_272 (k := 15) rfl) sx_330 g1 g2 (fun u6 e7 => ?_)
    have h := h u6 e7
    refine u_ld (v := lV l2) (pc := 28) (dec_at lsk_272 (k := 16) rfl) rfl ?_
    refine u_ld (v := iV l4) (pc := 29) (dec_at lsk_272 (k := 17) rfl) rfl ?_
    refine u_ld (v := .ref 271) (pc := 31) (dec_at lsk_272 (k := 18) rfl) rfl ?_
    refine u_gS (o := 57) (p := 328) (pc := 32) (dec_at lsk_272 (k := 19) rfl) f_12_182 sx_271 rfl rfl ?_
    refine u_ld (v := iV l1) (pc := 35) (dec_at lsk_272 (k := 20) rfl) rfl ?_
    refine u_lald (pc := 36) (dec_at lsk_272 (k := 21) rfl) sx_328 g1 g2 ?_
    refine u_ld (v := .ref 271) (pc := 37) (dec_at lsk_272 (k := 22) rfl) rfl ?_
    refine u_gS (o := 58) (p := 329) (pc := 38) (dec_at lsk_272 (k := 23) rfl) f_12_185 sx_271 rfl rfl ?_
    refine u_ld (v := iV l1) (pc := 41) (dec_at lsk_272 (k := 24) rfl) rfl ?_
    refine u_iald (pc := 42) (dec_at lsk_272 (k := 25) rfl) sx_329 g1 g2 ?_
    refine u_csI (As := [lV l2, iV l4, lV (u6.1 328 l1), iV (u6.1 329 l1)]) (st2 := []) (pc := 43) (dec_at lsk_272 (k := 26) rfl) m_12_497 (Or.inl rfl) rfl (Nat.le_of_ble_eq_true rfl) ?_ (fun _ _ h_ => h_)
    refine u_of me_273 (Nat.le_of_ble_eq_true rfl) ?_
    refine u_ld (v := lV l2) (pc := 0) (dec_at lsk_273 (k := 0) rfl) rfl ?_
    refine u_ld (v := lV (u6.1 328 l1)) (pc := 1) (dec_at lsk_273 (k := 1) rfl) rfl ?_
    refine u_st (st' := [.int (lg_cmp (Int64.ofInt l2) (Int64.ofInt (u6.1 328 l1)))]) (pc := 2) (dec_at lsk_273 (k := 2) rfl) rfl ?_
    have g8 := h.1
    have h := h.2
    have g9 := h.1
    have h := h.2
    refine u_ifT (pc := 3) (tgt := 18) (dec_at lsk_273 (k := 3) rfl) rfl (cl_lt g8 g9) (fun e10 => ?_) (fun e10 => ?_)
    · have h := ifT e10 h
      refine u_ld (v := iV 1) (pc := 18) (dec_at lsk_273 (k := 11) rfl) rfl ?_
      refine u_goto (pc := 19) (tgt := 23) (dec_at lsk_273 (k := 12) rfl) rfl ?_
      refine u_rZ (pc := 23) (dec_at lsk_273 (k := 14) rfl) rfl (by decide) ?_
      refine u_ifT (pc := 46) (tgt := 64) (dec_at lsk_272 (k := 27) rfl) rfl (c0_eq (by decide)) (fun e => absurd e (by decide)) (fun _ => ?_)
      refine u_ld (v := .ref 271) (pc := 49) (dec_at lsk_272 (k := 28) rfl) rfl ?_
      refine u_gS (o := 57) (p := 328) (pc := 50) (dec_at lsk_272 (k := 29) rfl) f_12_182 sx_271 rfl rfl ?_
      refine u_ld (v := iV l1) (pc := 53) (dec_at lsk_272 (k := 30) rfl) rfl ?_
      refine u_ld (v := lV l2) (pc := 54) (dec_at lsk_272 (k := 31) rfl) rfl ?_
      refine u_last (pc := 55) (dec_at lsk_272 (k := 32) rfl) sx_328 g1 g2 (fun u11 e12 => ?_)
      have h := h u11 e12
      refine u_ld (v := .ref 271) (pc := 56) (dec_at lsk_272 (k := 33) rfl) rfl ?_
      refine u_gS (o := 58) (p := 329) (pc := 57) (dec_at lsk_272 (k := 34) rfl) f_12_185 sx_271 rfl rfl ?_
      refine u_ld (v := iV l1) (pc := 60) (dec_at lsk_272 (k := 35) rfl) rfl ?_
      refine u_ld (v := iV l4) (pc := 61) (dec_at lsk_272 (k := 36) rfl) rfl ?_
      refine u_iast (pc := 63) (dec_at lsk_272 (k := 37) rfl) sx_329 g1 g2 (fun u13 e14 => ?_)
      have h := h u13 e14
      exact u_rV (pc := 64) (dec_at lsk_272 (k := 38) rfl) rfl h
    · have h := ifF e10 h
      refine u_ld (v := lV l2) (pc := 6) (dec_at lsk_273 (k := 4) rfl) rfl ?_
      refine u_ld (v := lV (u6.1 328 l1)) (pc := 7) (dec_at lsk_273 (k := 5) rfl) rfl ?_
      refine u_st (st' := [.int (lg_cmp (Int64.ofInt l2) (Int64.ofInt (u6.1 328 l1)))]) (pc := 8) (dec_at lsk_273 (k := 6) rfl) rfl ?_
      refine u_ifF (pc := 9) (tgt := 22) (dec_at lsk_273 (k := 7) rfl) rfl (cl_ne g8 g9) (fun e15 => ?_) (fun e15 => ?_)
      · have h := ifT e15 h
        refine u_ld (v := iV l4) (pc := 12) (dec_at lsk_273 (k := 8) rfl) rfl ?_
        refine u_ld (v := iV (u6.1 329 l1)) (pc := 13) (dec_at lsk_273 (k := 9) rfl) rfl ?_
        have g16 := h.1
        have h := h.2
        have g17 := h.1
        have h := h.2
        refine u_icF (pc := 15) (tgt := 22) (dec_at lsk_273 (k := 10) rfl) rfl (ci_ge g16 g17) (fun e18 => ?_) (fun e18 => ?_)
        · have h := ifT e18 h
          refine u_ld (v := iV 1) (pc := 18) (dec_at lsk_273 (k := 11) rfl) rfl ?_
          refine u_goto (pc := 19) (tgt := 23) (dec_at lsk_273 (k := 12) rfl) rfl ?_
          refine u_rZ (pc := 23) (dec_at lsk_273 (k := 14) rfl) rfl (by decide) ?_
          refine u_ifT (pc := 46) (tgt := 64) (dec_at lsk_272 (k := 27) rfl) rfl (c0_eq (by decide)) (fun e => absurd e (by decide)) (fun _ => ?_)
          refine u_ld (v := .ref 271) (pc := 49) (dec_at lsk_272 (k := 28) rfl) rfl ?_
          refine u_gS (o := 57) (p := 328) (pc := 50) (dec_at lsk_272 (k := 29) rfl) f_12_182 sx_271 rfl rfl ?_
          refine u_ld (v := iV l1) (pc := 53) (dec_at lsk_272 (k := 30) rfl) rfl ?_
          refine u_ld (v := lV l2) (pc := 54) (dec_at lsk_272 (k := 31) rfl) rfl ?_
          refine u_last (pc := 55) (dec_at lsk_272 (k := 32) rfl) sx_328 g1 g2 (fun u19 e20 => ?_)
          have h := h u19 e20
          refine u_ld (v := .ref 271) (pc := 56) (dec_at lsk_272 (k := 33) rfl) rfl ?_
          refine u_gS (o := 58) (p := 329) (pc := 57) (dec_at lsk_272 (k := 34) rfl) f_12_185 sx_271 rfl rfl ?_
          refine u_ld (v := iV l1) (pc := 60) (dec_at lsk_272 (k := 35) rfl) rfl ?_
          refine u_ld (v := iV l4) (pc := 61) (dec_at lsk_272 (k := 36) rfl) rfl ?_
          refine u_iast (pc := 63) (dec_at lsk_272 (k := 37) rfl) sx_329 g1 g2 (fun u21 e22 => ?_)
          have h := h u21 e22
          exact u_rV (pc := 64) (dec_at lsk_272 (k := 38) rfl) rfl h
        · have h := ifF e18 h
          refine u_ld (v := iV 0) (pc := 22) (dec_at lsk_273 (k := 13) rfl) rfl ?_
          refine u_rZ (pc := 23) (dec_at lsk_273 (k := 14) rfl) rfl (by decide) ?_
          refine u_ifT (pc := 46) (tgt := 64) (dec_at lsk_272 (k := 27) rfl) rfl (c0_eq (by decide)) (fun _ => ?_) (fun e => absurd e (by decide))
          exact u_rV (pc := 64) (dec_at lsk_272 (k := 38) rfl) rfl h
      · have h := ifF e15 h
        refine u_ld (v := iV 0) (pc := 22) (dec_at lsk_273 (k := 13) rfl) rfl ?_
        refine u_rZ (pc := 23) (dec_at lsk_273 (k := 14) rfl) rfl (by decide) ?_
        refine u_ifT (pc := 46) (tgt := 64) (dec_at lsk_272 (k := 27) rfl) rfl (c0_eq (by decide)) (fun _ => ?_) (fun e => absurd e (by decide))
        exact u_rV (pc := 64) (dec_at lsk_272 (k := 38) rfl) rfl h
  · have h := ifF e5 h
    refine u_ld (v := .ref 271) (pc := 21) (dec_at lsk_272 (k := 11) rfl) rfl ?_
    refine u_gS (o := 59) (p := 330) (pc := 22) (dec_at lsk_272 (k := 12) rfl) f_12_188 sx_271 rfl rfl ?_
    refine u_ld (v := iV l1) (pc := 25) (dec_at lsk_272 (k := 13) rfl) rfl ?_
    refine u_iald (pc := 26) (dec_at lsk_272 (k := 14) rfl) sx_330 g1 g2 ?_
    refine u_iast (pc := 27) (dec_at lsk_272 (k := 15) rfl) sx_330 g1 g2 (fun u23 e24 => ?_)
    have h := h u23 e24
    refine u_ld (v := lV l2) (pc := 28) (dec_at lsk_272 (k := 16) rfl) rfl ?_
    refine u_ld (v := iV l4) (pc := 29) (dec_at lsk_272 (k := 17) rfl) rfl ?_
    refine u_ld (v := .ref 271) (pc := 31) (dec_at lsk_272 (k := 18) rfl) rfl ?_
    refine u_gS (o := 57) (p := 328) (pc := 32) (dec_at lsk_272 (k := 19) rfl) f_12_182 sx_271 rfl rfl ?_
    refine u_ld (v := iV l1) (pc := 35) (dec_at lsk_272 (k := 20) rfl) rfl ?_
    refine u_lald (pc := 36) (dec_at lsk_272 (k := 21) rfl) sx_328 g1 g2 ?_
    refine u_ld (v := .ref 271) (pc := 37) (dec_at lsk_272 (k := 22) rfl) rfl ?_
    refine u_gS (o := 58) (p := 329) (pc := 38) (dec_at lsk_272 (k := 23) rfl) f_12_185 sx_271 rfl rfl ?_
    refine u_ld (v := iV l1) (pc := 41) (dec_at lsk_272 (k := 24) rfl) rfl ?_
    refine u_iald (pc := 42) (dec_at lsk_272 (k := 25) rfl) sx_329 g1 g2 ?_
    refine u_csI (As := [lV l2, iV l4, lV (u23.1 328 l1), iV (u23.1 329 l1)]) (st2 := []) (pc := 43) (dec_at lsk_272 (k := 26) rfl) m_12_497 (Or.inl rfl) rfl (Nat.le_of_ble_eq_true rfl) ?_ (fun _ _ h_ => h_)
    refine u_of me_273 (Nat.le_of_ble_eq_true rfl) ?_
    refine u_ld (v := lV l2) (pc := 0) (dec_at lsk_273 (k := 0) rfl) rfl ?_
    refine u_ld (v := lV (u23.1 328 l1)) (pc := 1) (dec_at lsk_273 (k := 1) rfl) rfl ?_
    refine u_st (st' := [.int (lg_cmp (Int64.ofInt l2) (Int64.ofInt (u23.1 328 l1)))]) (pc := 2) (dec_at lsk_273 (k := 2) rfl) rfl ?_
    have g25 := h.1
    have h := h.2
    have g26 := h.1
    have h := h.2
    refine u_ifT (pc := 3) (tgt := 18) (dec_at lsk_273 (k := 3) rfl) rfl (cl_lt g25 g26) (fun e27 => ?_) (fun e27 => ?_)
    · have h := ifT e27 h
      refine u_ld (v := iV 1) (pc := 18) (dec_at lsk_273 (k := 11) rfl) rfl ?_
      refine u_goto (pc := 19) (tgt := 23) (dec_at lsk_273 (k := 12) rfl) rfl ?_
      refine u_rZ (pc := 23) (dec_at lsk_273 (k := 14) rfl) rfl (by decide) ?_
      refine u_ifT (pc := 46) (tgt := 64) (dec_at lsk_272 (k := 27) rfl) rfl (c0_eq (by decide)) (fun e => absurd e (by decide)) (fun _ => ?_)
      refine u_ld (v := .ref 271) (pc := 49) (dec_at lsk_272 (k := 28) rfl) rfl ?_
      refine u_gS (o := 57) (p := 328) (pc := 50) (dec_at lsk_272 (k := 29) rfl) f_12_182 sx_271 rfl rfl ?_
      refine u_ld (v := iV l1) (pc := 53) (dec_at lsk_272 (k := 30) rfl) rfl ?_
      refine u_ld (v := lV l2) (pc := 54) (dec_at lsk_272 (k := 31) rfl) rfl ?_
      refine u_last (pc := 55) (dec_at lsk_272 (k := 32) rfl) sx_328 g1 g2 (fun u28 e29 => ?_)
      have h := h u28 e29
      refine u_ld (v := .ref 271) (pc := 56) (dec_at lsk_272 (k := 33) rfl) rfl ?_
      refine u_gS (o := 58) (p := 329) (pc := 57) (dec_at lsk_272 (k := 34) rfl) f_12_185 sx_271 rfl rfl ?_
      refine u_ld (v := iV l1) (pc := 60) (dec_at lsk_272 (k := 35) rfl) rfl ?_
      refine u_ld (v := iV l4) (pc := 61) (dec_at lsk_272 (k := 36) rfl) rfl ?_
      refine u_iast (pc := 63) (dec_at lsk_272 (k := 37) rfl) sx_329 g1 g2 (fun u30 e31 => ?_)
      have h := h u30 e31
      exact u_rV (pc := 64) (dec_at lsk_272 (k := 38) rfl) rfl h
    · have h := ifF e27 h
      refine u_ld (v := lV l2) (pc := 6) (dec_at lsk_273 (k := 4) rfl) rfl ?_
      refine u_ld (v := lV (u23.1 328 l1)) (pc := 7) (dec_at lsk_273 (k := 5) rfl) rfl ?_
      refine u_st (st' := [.int (lg_cmp (Int64.ofInt l2) (Int64.ofInt (u23.1 328 l1)))]) (pc := 8) (dec_at lsk_273 (k := 6) rfl) rfl ?_
      refine u_ifF (pc := 9) (tgt := 22) (dec_at lsk_273 (k := 7) rfl) rfl (cl_ne g25 g26) (fun e32 => ?_) (fun e32 => ?_)
      · have h := ifT e32 h
        refine u_ld (v := iV l4) (pc := 12) (dec_at lsk_273 (k := 8) rfl) rfl ?_
        refine u_ld (v := iV (u23.1 329 l1)) (pc := 13) (dec_at lsk_273 (k := 9) rfl) rfl ?_
        have g33 := h.1
        have h := h.2
        have g34 := h.1
        have h := h.2
        refine u_icF (pc := 15) (tgt := 22) (dec_at lsk_273 (k := 10) rfl) rfl (ci_ge g33 g34) (fun e35 => ?_) (fun e35 => ?_)
        · have h := ifT e35 h
          refine u_ld (v := iV 1) (pc := 18) (dec_at lsk_273 (k := 11) rfl) rfl ?_
          refine u_goto (pc := 19) (tgt := 23) (dec_at lsk_273 (k := 12) rfl) rfl ?_
          refine u_rZ (pc := 23) (dec_at lsk_273 (k := 14) rfl) rfl (by decide) ?_
          refine u_ifT (pc := 46) (tgt := 64) (dec_at lsk_272 (k := 27) rfl) rfl (c0_eq (by decide)) (fun e => absurd e (by decide)) (fun _ => ?_)
          refine u_ld (v := .ref 271) (pc := 49) (dec_at lsk_272 (k := 28) rfl) rfl ?_
          refine u_gS (o := 57) (p := 328) (pc := 50) (dec_at lsk_272 (k := 29) rfl) f_12_182 sx_271 rfl rfl ?_
          refine u_ld (v := iV l1) (pc := 53) (dec_at lsk_272 (k := 30) rfl) rfl ?_
          refine u_ld (v := lV l2) (pc := 54) (dec_at lsk_272 (k := 31) rfl) rfl ?_
          refine u_last (pc := 55) (dec_at lsk_272 (k := 32) rfl) sx_328 g1 g2 (fun u36 e37 => ?_)
          have h := h u36 e37
          refine u_ld (v := .ref 271) (pc := 56) (dec_at lsk_272 (k := 33) rfl) rfl ?_
          refine u_gS (o := 58) (p := 329) (pc := 57) (dec_at lsk_272 (k := 34) rfl) f_12_185 sx_271 rfl rfl ?_
          refine u_ld (v := iV l1) (pc := 60) (dec_at lsk_272 (k := 35) rfl) rfl ?_
          refine u_ld (v := iV l4) (pc := 61) (dec_at lsk_272 (k := 36) rfl) rfl ?_
          refine u_iast (pc := 63) (dec_at lsk_272 (k := 37) rfl) sx_329 g1 g2 (fun u38 e39 => ?_)
          have h := h u38 e39
          exact u_rV (pc := 64) (dec_at lsk_272 (k := 38) rfl) rfl h
        · have h := ifF e35 h
          refine u_ld (v := iV 0) (pc := 22) (dec_at lsk_273 (k := 13) rfl) rfl ?_
          refine u_rZ (pc := 23) (dec_at lsk_273 (k := 14) rfl) rfl (by decide) ?_
          refine u_ifT (pc := 46) (tgt := 64) (dec_at lsk_272 (k := 27) rfl) rfl (c0_eq (by decide)) (fun _ => ?_) (fun e => absurd e (by decide))
          exact u_rV (pc := 64) (dec_at lsk_272 (k := 38) rfl) rfl h
      · have h := ifF e32 h
        refine u_ld (v := iV 0) (pc := 22) (dec_at lsk_273 (k := 13) rfl) rfl ?_
        refine u_rZ (pc := 23) (dec_at lsk_273 (k := 14) rfl) rfl (by decide) ?_
        refine u_ifT (pc := 46) (tgt := 64) (dec_at lsk_272 (k := 27) rfl) rfl (c0_eq (by decide)) (fun _ => ?_) (fun e => absurd e (by decide))
        exact u_rV (pc := 64) (dec_at lsk_272 (k := 38) rfl) rfl h
/-- method 275 -/
def K_275 (d pc : Nat) (lv : ev_L) (st : List Value) (u : uS) (Q : Int → uS → Prop) : Prop := okU d 12 11 false (some .boolean) prog_14_method_76_code (qI Q) pc lv st u
theorem e_275 {d : Nat} {Q : Int → uS → Prop} {u : uS} {l1 l2 l3 l4 : Int} (h : (0 ≤ l1) ∧ ((l1 < 30) ∧ (K_275 (d + 1) 17 [.ref 271, iV l1, iV l2, iV l3, iV l4, iV 0, iV (40 * (u.1 276 l1)), iV 0, .retAddr 0, .retAddr 0, .retAddr 0] [] u Q))) : cI (d + 2) 275 [.ref 271, iV l1, iV l2, iV l3, iV l4] u Q := by
  refine u_of me_275 (Nat.le_of_ble_eq_true rfl) ?_
  refine u_ld (v := iV 0) (pc := 0) (dec_at lsk_275 (k := 0) rfl) rfl ?_
  refine u_sto (lv' := [.ref 271, iV l1, iV l2, iV l3, iV l4, iV 0, .retAddr 0, .retAddr 0, .retAddr 0, .retAddr 0, .retAddr 0]) (pc := 1) (dec_at lsk_275 (k := 1) rfl) rfl ?_
  refine u_c (x := 40) (pc := 3) (dec_at lsk_275 (k := 2) rfl) rfl (by decide) ?_
  refine u_ld (v := .ref 271) (pc := 5) (dec_at lsk_275 (k := 3) rfl) rfl ?_
  refine u_gS (o := 5) (p := 276) (pc := 6) (dec_at lsk_275 (k := 4) rfl) f_12_22 sx_271 rfl rfl ?_
  refine u_ld (v := iV l1) (pc := 9) (dec_at lsk_275 (k := 5) rfl) rfl ?_
  have g1 := h.1
  have h := h.2
  have g2 := h.1
  have h := h.2
  refine u_iald (pc := 10) (dec_at lsk_275 (k := 6) rfl) sx_276 g1 g2 ?_
  refine u_imul (pc := 11) (dec_at lsk_275 (k := 7) rfl) ?_
  refine u_sto (lv' := [.ref 271, iV l1, iV l2, iV l3, iV l4, iV 0, iV (40 * (u.1 276 l1)), .retAddr 0, .retAddr 0, .retAddr 0, .retAddr 0]) (pc := 12) (dec_at lsk_275 (k := 8) rfl) rfl ?_
  refine u_ld (v := iV 0) (pc := 14) (dec_at lsk_275 (k := 9) rfl) rfl ?_
  refine u_sto (lv' := [.ref 271, iV l1, iV l2, iV l3, iV l4, iV 0, iV (40 * (u.1 276 l1)), iV 0, .retAddr 0, .retAddr 0, .retAddr 0]) (pc := 15) (dec_at lsk_275 (k := 10) rfl) rfl ?_
  exact h
theorem k_275_17 {d : Nat} {Q : Int → uS → Prop} {u : uS} {l1 l2 l3 l4 l5 l6 l7 : Int} (h : (rI l7) ∧ ((rI l3) ∧ (if l7 < l3 then ((0 ≤ l6 + l7) ∧ ((l6 + l7 < 280) ∧ ((rL (u.1 328 (l6 + l7))) ∧ (if u.1 328 (l6 + l7) = 4000000000000000000 then (K_275 (d + 1) 77 [.ref 271, iV l1, iV l2, iV l3, iV l4, iV l5, iV l6, iV l7, iV ((((40 * l1) + l2) * 40) + l7), .retAddr 0, .retAddr 0] [iV (u.1 330 (l6 + l7))] u Q) else (K_275 (d + 1) 77 [.ref 271, iV l1, iV l2, iV l3, iV l4, iV l5, iV l6, iV l7, iV ((((40 * l1) + l2) * 40) + l7), .retAddr 0, .retAddr 0] [iV (u.1 329 (l6 + l7))] u Q))))) else ((l5 = 0 ∨ l5 = 1) ∧ (Q l5 u))))) : K_275 (d + 1) 17 [.ref 271, iV l1, iV l2, iV l3, iV l4, iV l5, iV l6, iV l7, .retAddr 0, .retAddr 0, .retAddr 0] [] u Q := by
  unfold K_275
  refine u_ld (v := iV l7) (pc := 17) (dec_at lsk_275 (k := 11) rfl) rfl ?_
  refine u_ld (v := iV l3) (pc := 19) (dec_at lsk_275 (k := 12) rfl) rfl ?_
  have g1 := h.1
  have h := h.2
  have g2 := h.1
  have h := h.2
  refine u_icF (pc := 20) (tgt := 248) (dec_at lsk_275 (k := 13) rfl) rfl (ci_ge g1 g2) (fun e3 => ?_) (fun e3 => ?_)
  · have h := ifT e3 h
    refine u_c (x := 40) (pc := 23) (dec_at lsk_275 (k := 14) rfl) rfl (by decide) ?_
    refine u_ld (v := iV l1) (pc := 25) (dec_at lsk_275 (k := 15) rfl) rfl ?_
    refine u_imul (pc := 26) (dec_at lsk_275 (k := 16) rfl) ?_
    refine u_ld (v := iV l2) (pc := 27) (dec_at lsk_275 (k := 17) rfl) rfl ?_
    refine u_iadd (pc := 28) (dec_at lsk_275 (k := 18) rfl) ?_
    refine u_c (x := 40) (pc := 29) (dec_at lsk_275 (k := 19) rfl) rfl (by decide) ?_
    refine u_imul (pc := 31) (dec_at lsk_275 (k := 20) rfl) ?_
    refine u_ld (v := iV l7) (pc := 32) (dec_at lsk_275 (k := 21) rfl) rfl ?_
    refine u_iadd (pc := 34) (dec_at lsk_275 (k := 22) rfl) ?_
    refine u_sto (lv' := [.ref 271, iV l1, iV l2, iV l3, iV l4, iV l5, iV l6, iV l7, iV ((((40 * l1) + l2) * 40) + l7), .retAddr 0, .retAddr 0]) (pc := 35) (dec_at lsk_275 (k := 23) rfl) rfl ?_
    refine u_ld (v := .ref 271) (pc := 37) (dec_at lsk_275 (k := 24) rfl) rfl ?_
    refine u_gS (o := 57) (p := 328) (pc := 38) (dec_at lsk_275 (k := 25) rfl) f_12_182 sx_271 rfl rfl ?_
    refine u_ld (v := iV l6) (pc := 41) (dec_at lsk_275 (k := 26) rfl) rfl ?_
    refine u_ld (v := iV l7) (pc := 43) (dec_at lsk_275 (k := 27) rfl) rfl ?_
    refine u_iadd (pc := 45) (dec_at lsk_275 (k := 28) rfl) ?_
    have g4 := h.1
    have h := h.2
    have g5 := h.1
    have h := h.2
    refine u_lald (pc := 46) (dec_at lsk_275 (k := 29) rfl) sx_328 g4 g5 ?_
    refine u_ldc2 (x := 4000000000000000000) (pc := 47) (dec_at lsk_275 (k := 30) rfl) con_12_244 (by decide) ?_
    refine u_st (st' := [.int (lg_cmp (Int64.ofInt (u.1 328 (l6 + l7))) (Int64.ofInt 4000000000000000000))]) (pc := 50) (dec_at lsk_275 (k := 31) rfl) rfl ?_
    have g6 := h.1
    have h := h.2
    refine u_ifF (pc := 51) (tgt := 67) (dec_at lsk_275 (k := 32) rfl) rfl (cl_ne g6 (by decide)) (fun e7 => ?_) (fun e7 => ?_)
    · have h := ifT e7 h
      refine u_ld (v := .ref 271) (pc := 54) (dec_at lsk_275 (k := 33) rfl) rfl ?_
      refine u_gS (o := 59) (p := 330) (pc := 55) (dec_at lsk_275 (k := 34) rfl) f_12_188 sx_271 rfl rfl ?_
      refine u_ld (v := iV l6) (pc := 58) (dec_at lsk_275 (k := 35) rfl) rfl ?_
      refine u_ld (v := iV l7) (pc := 60) (dec_at lsk_275 (k := 36) rfl) rfl ?_
      refine u_iadd (pc := 62) (dec_at lsk_275 (k := 37) rfl) ?_
      refine u_iald (pc := 63) (dec_at lsk_275 (k := 38) rfl) sx_330 g4 g5 ?_
      refine u_goto (pc := 64) (tgt := 77) (dec_at lsk_275 (k := 39) rfl) rfl ?_
      exact h
    · have h := ifF e7 h
      refine u_ld (v := .ref 271) (pc := 67) (dec_at lsk_275 (k := 40) rfl) rfl ?_
      refine u_gS (o := 58) (p := 329) (pc := 68) (dec_at lsk_275 (k := 41) rfl) f_12_185 sx_271 rfl rfl ?_
      refine u_ld (v := iV l6) (pc := 71) (dec_at lsk_275 (k := 42) rfl) rfl ?_
      refine u_ld (v := iV l7) (pc := 73) (dec_at lsk_275 (k := 43) rfl) rfl ?_
      refine u_iadd (pc := 75) (dec_at lsk_275 (k := 44) rfl) ?_
      refine u_iald (pc := 76) (dec_at lsk_275 (k := 45) rfl) sx_329 g4 g5 ?_
      exact h
  · have h := ifF e3 h
    refine u_ld (v := iV l5) (pc := 248) (dec_at lsk_275 (k := 139) rfl) rfl ?_
    have g8 := h.1
    have h := h.2
    exact u_rZ (pc := 250) (dec_at lsk_275 (k := 140) rfl) rfl g8 h
theorem k_275_77 {d : Nat} {Q : Int → uS → Prop} {u : uS} {l1 l2 l3 l4 l5 l6 l7 l8 s0 : Int} (h : (0 ≤ l6 + l7) ∧ ((l6 + l7 < 280) ∧ ((0 ≤ l8) ∧ ((l8 < 48000) ∧ (∀ u5 : uS, u5 = wr u 326 l8 (u.1 328 (l6 + l7)) → (∀ u7 : uS, u7 = wr u5 327 l8 (s0 + 1) → ((0 ≤ l1) ∧ ((l1 < 30) ∧ ((rI l4) ∧ (if l4 = 0 then ((0 ≤ (((10 * l2) + (u7.1 275 l1)) * 40) + l7) ∧ (((((10 * l2) + (u7.1 275 l1)) * 40) + l7 < 16000) ∧ ((rL (u7.1 328 (l6 + l7))) ∧ ((rL (u7.1 324 ((((10 * l2) + (u7.1 275 l1)) * 40) + l7))) ∧ (if u7.1 328 (l6 + l7) < u7.1 324 ((((10 * l2) + (u7.1 275 l1)) * 40) + l7) then (∀ u18 : uS, u18 = wr u7 324 ((((10 * l2) + (u7.1 275 l1)) * 40) + l7) (u7.1 328 (l6 + l7)) → (K_275 (d + 1) 167 [.ref 271, iV l1, iV l2, iV l3, iV l4, iV 1, iV l6, iV l7, .retAddr 0, iV (s0 + 1), iV ((((10 * l2) + (u7.1 275 l1)) * 40) + l7)] [] u18 Q)) else (K_275 (d + 1) 167 [.ref 271, iV l1, iV l2, iV l3, iV l4, iV l5, iV l6, iV l7, .retAddr 0, iV (s0 + 1), iV ((((10 * l2) + (u7.1 275 l1)) * 40) + l7)] [] u7 Q)))))) else (K_275 (d + 1) 167 [.ref 271, iV l1, iV l2, iV l3, iV l4, iV l5, iV l6, iV l7, .retAddr 0, iV (s0 + 1), iV ((((10 * l2) + (u7.1 275 l1)) * 40) + l7)] [] u7 Q))))))))))) : K_275 (d + 1) 77 [.ref 271, iV l1, iV l2, iV l3, iV l4, iV l5, iV l6, iV l7, iV l8, .retAddr 0, .retAddr 0] [iV s0] u Q := by
  unfold K_275
  refine u_ld (v := iV 1) (pc := 77) (dec_at lsk_275 (k := 46) rfl) rfl ?_
  refine u_iadd (pc := 78) (dec_at lsk_275 (k := 47) rfl) ?_
  refine u_sto (lv' := [.ref 271, iV l1, iV l2, iV l3, iV l4, iV l5, iV l6, iV l7, iV l8, iV (s0 + 1), .retAddr 0]) (pc := 79) (dec_at lsk_275 (k := 48) rfl) rfl ?_
  refine u_ld (v := .ref 271) (pc := 81) (dec_at lsk_275 (k := 49) rfl) rfl ?_
  refine u_gS (o := 55) (p := 326) (pc := 82) (dec_at lsk_275 (k := 50) rfl) f_12_176 sx_271 rfl rfl ?_
  refine u_ld (v := iV l8) (pc := 85) (dec_at lsk_275 (k := 51) rfl) rfl ?_
  refine u_ld (v := .ref 271) (pc := 87) (dec_at lsk_275 (k := 52) rfl) rfl ?_
  refine u_gS (o := 57) (p := 328) (pc := 88) (dec_at lsk_275 (k := 53) rfl) f_12_182 sx_271 rfl rfl ?_
  refine u_ld (v := iV l6) (pc := 91) (dec_at lsk_275 (k := 54) rfl) rfl ?_
  refine u_ld (v := iV l7) (pc := 93) (dec_at lsk_275 (k := 55) rfl) rfl ?_
  refine u_iadd (pc := 95) (dec_at lsk_275 (k := 56) rfl) ?_
  have g1 := h.1
  have h := h.2
  have g2 := h.1
  have h := h.2
  refine u_lald (pc := 96) (dec_at lsk_275 (k := 57) rfl) sx_328 g1 g2 ?_
  have g3 := h.1
  have h := h.2
  have g4 := h.1
  have h := h.2
  refine u_last (pc := 97) (dec_at lsk_275 (k := 58) rfl) sx_326 g3 g4 (fun u5 e6 => ?_)
  have h := h u5 e6
  refine u_ld (v := .ref 271) (pc := 98) (dec_at lsk_275 (k := 59) rfl) rfl ?_
  refine u_gS (o := 56) (p := 327) (pc := 99) (dec_at lsk_275 (k := 60) rfl) f_12_179 sx_271 rfl rfl ?_
  refine u_ld (v := iV l8) (pc := 102) (dec_at lsk_275 (k := 61) rfl) rfl ?_
  refine u_ld (v := iV (s0 + 1)) (pc := 104) (dec_at lsk_275 (k := 62) rfl) rfl ?_
  refine u_iast (pc := 106) (dec_at lsk_275 (k := 63) rfl) sx_327 g3 g4 (fun u7 e8 => ?_)
  have h := h u7 e8
  refine u_ld (v := iV l2) (pc := 107) (dec_at lsk_275 (k := 64) rfl) rfl ?_
  refine u_ld (v := .ref 271) (pc := 108) (dec_at lsk_275 (k := 65) rfl) rfl ?_
  refine u_gS (o := 4) (p := 275) (pc := 109) (dec_at lsk_275 (k := 66) rfl) f_12_19 sx_271 rfl rfl ?_
  refine u_ld (v := iV l1) (pc := 112) (dec_at lsk_275 (k := 67) rfl) rfl ?_
  have g9 := h.1
  have h := h.2
  have g10 := h.1
  have h := h.2
  refine u_iald (pc := 113) (dec_at lsk_275 (k := 68) rfl) sx_275 g9 g10 ?_
  refine u_ld (v := iV l7) (pc := 114) (dec_at lsk_275 (k := 69) rfl) rfl ?_
  refine u_csI (As := [iV l2, iV (u7.1 275 l1), iV l7]) (st2 := []) (pc := 116) (dec_at lsk_275 (k := 70) rfl) m_12_494 (Or.inl rfl) rfl (Nat.le_of_ble_eq_true rfl) ?_ (fun _ _ h_ => h_)
  refine u_of me_274 (Nat.le_of_ble_eq_true rfl) ?_
  refine u_c (x := 10) (pc := 0) (dec_at lsk_274 (k := 0) rfl) rfl (by decide) ?_
  refine u_ld (v := iV l2) (pc := 2) (dec_at lsk_274 (k := 1) rfl) rfl ?_
  refine u_imul (pc := 3) (dec_at lsk_274 (k := 2) rfl) ?_
  refine u_ld (v := iV (u7.1 275 l1)) (pc := 4) (dec_at lsk_274 (k := 3) rfl) rfl ?_
  refine u_iadd (pc := 5) (dec_at lsk_274 (k := 4) rfl) ?_
  refine u_c (x := 40) (pc := 6) (dec_at lsk_274 (k := 5) rfl) rfl (by decide) ?_
  refine u_imul (pc := 8) (dec_at lsk_274 (k := 6) rfl) ?_
  refine u_ld (v := iV l7) (pc := 9) (dec_at lsk_274 (k := 7) rfl) rfl ?_
  refine u_iadd (pc := 10) (dec_at lsk_274 (k := 8) rfl) ?_
  refine u_rI (pc := 11) (dec_at lsk_274 (k := 9) rfl) rfl ?_
  refine u_sto (lv' := [.ref 271, iV l1, iV l2, iV l3, iV l4, iV l5, iV l6, iV l7, iV l8, iV (s0 + 1), iV ((((10 * l2) + (u7.1 275 l1)) * 40) + l7)]) (pc := 119) (dec_at lsk_275 (k := 71) rfl) rfl ?_
  refine u_ld (v := iV l4) (pc := 121) (dec_at lsk_275 (k := 72) rfl) rfl ?_
  have g11 := h.1
  have h := h.2
  refine u_ifF (pc := 123) (tgt := 167) (dec_at lsk_275 (k := 73) rfl) rfl (c0_ne g11) (fun e12 => ?_) (fun e12 => ?_)
  · have h := ifT e12 h
    refine u_ld (v := .ref 271) (pc := 126) (dec_at lsk_275 (k := 74) rfl) rfl ?_
    refine u_gS (o := 57) (p := 328) (pc := 127) (dec_at lsk_275 (k := 75) rfl) f_12_182 sx_271 rfl rfl ?_
    refine u_ld (v := iV l6) (pc := 130) (dec_at lsk_275 (k := 76) rfl) rfl ?_
    refine u_ld (v := iV l7) (pc := 132) (dec_at lsk_275 (k := 77) rfl) rfl ?_
    refine u_iadd (pc := 134) (dec_at lsk_275 (k := 78) rfl) ?_
    refine u_lald (pc := 135) (dec_at lsk_275 (k := 79) rfl) sx_328 g1 g2 ?_
    refine u_ld (v := .ref 271) (pc := 136) (dec_at lsk_275 (k := 80) rfl) rfl ?_
    refine u_gS (o := 53) (p := 324) (pc := 137) (dec_at lsk_275 (k := 81) rfl) f_12_169 sx_271 rfl rfl ?_
    refine u_ld (v := iV ((((10 * l2) + (u7.1 275 l1)) * 40) + l7)) (pc := 140) (dec_at lsk_275 (k := 82) rfl) rfl ?_
    have g13 := h.1
    have h := h.2
    have g14 := h.1
    have h := h.2
    refine u_lald (pc := 142) (dec_at lsk_275 (k := 83) rfl) sx_324 g13 g14 ?_
    refine u_st (st' := [.int (lg_cmp (Int64.ofInt (u7.1 328 (l6 + l7))) (Int64.ofInt (u7.1 324 ((((10 * l2) + (u7.1 275 l1)) * 40) + l7))))]) (pc := 143) (dec_at lsk_275 (k := 84) rfl) rfl ?_
    have g15 := h.1
    have h := h.2
    have g16 := h.1
    have h := h.2
    refine u_ifF (pc := 144) (tgt := 167) (dec_at lsk_275 (k := 85) rfl) rfl (cl_ge g15 g16) (fun e17 => ?_) (fun e17 => ?_)
    · have h := ifT e17 h
      refine u_ld (v := .ref 271) (pc := 147) (dec_at lsk_275 (k := 86) rfl) rfl ?_
      refine u_gS (o := 53) (p := 324) (pc := 148) (dec_at lsk_275 (k := 87) rfl) f_12_169 sx_271 rfl rfl ?_
      refine u_ld (v := iV ((((10 * l2) + (u7.1 275 l1)) * 40) + l7)) (pc := 151) (dec_at lsk_275 (k := 88) rfl) rfl ?_
      refine u_ld (v := .ref 271) (pc := 153) (dec_at lsk_275 (k := 89) rfl) rfl ?_
      refine u_gS (o := 57) (p := 328) (pc := 154) (dec_at lsk_275 (k := 90) rfl) f_12_182 sx_271 rfl rfl ?_
      refine u_ld (v := iV l6) (pc := 157) (dec_at lsk_275 (k := 91) rfl) rfl ?_
      refine u_ld (v := iV l7) (pc := 159) (dec_at lsk_275 (k := 92) rfl) rfl ?_
      refine u_iadd (pc := 161) (dec_at lsk_275 (k := 93) rfl) ?_
      refine u_lald (pc := 162) (dec_at lsk_275 (k := 94) rfl) sx_328 g1 g2 ?_
      refine u_last (pc := 163) (dec_at lsk_275 (k := 95) rfl) sx_324 g13 g14 (fun u18 e19 => ?_)
      have h := h u18 e19
      refine u_ld (v := iV 1) (pc := 164) (dec_at lsk_275 (k := 96) rfl) rfl ?_
      refine u_sto (lv' := [.ref 271, iV l1, iV l2, iV l3, iV l4, iV 1, iV l6, iV l7, iV l8, iV (s0 + 1), iV ((((10 * l2) + (u7.1 275 l1)) * 40) + l7)]) (pc := 165) (dec_at lsk_275 (k := 97) rfl) rfl ?_
      exact u_weak (sbK (sbK (sbK (sbK (sbK (sbK (sbK (sbK (sbD (sbK (sbK sb0))))))))))) h
    · have h := ifF e17 h
      exact u_weak (sbK (sbK (sbK (sbK (sbK (sbK (sbK (sbK (sbD (sbK (sbK sb0))))))))))) h
  · have h := ifF e12 h
    exact u_weak (sbK (sbK (sbK (sbK (sbK (sbK (sbK (sbK (sbD (sbK (sbK sb0))))))))))) h
theorem k_275_167 {d : Nat} {Q : Int → uS → Prop} {u : uS} {l1 l2 l3 l4 l5 l6 l7 l9 l10 : Int} (h : (rI l4) ∧ (if l4 = 0 then (K_275 (d + 1) 17 [.ref 271, iV l1, iV l2, iV l3, iV l4, iV l5, iV l6, iV (l7 + 1), .retAddr 0, .retAddr 0, .retAddr 0] [] u Q) else ((0 ≤ l6 + l7) ∧ ((l6 + l7 < 280) ∧ ((rL (u.1 328 (l6 + l7))) ∧ (if u.1 328 (l6 + l7) = 6000000000000000000 then (K_275 (d + 1) 17 [.ref 271, iV l1, iV l2, iV l3, iV l4, iV l5, iV l6, iV (l7 + 1), .retAddr 0, .retAddr 0, .retAddr 0] [] u Q) else ((0 ≤ l10) ∧ ((l10 < 16000) ∧ ((rL (u.1 324 l10)) ∧ (if u.1 328 (l6 + l7) = u.1 324 l10 then ((rI l9) ∧ (if 1000000 < l9 then (K_275 (d + 1) 17 [.ref 271, iV l1, iV l2, iV l3, iV l4, iV l5, iV l6, iV (l7 + 1), .retAddr 0, .retAddr 0, .retAddr 0] [] u Q) else ((rI (u.1 325 l10)) ∧ (if l9 < u.1 325 l10 then (∀ u15 : uS, u15 = wr u 325 l10 l9 → (K_275 (d + 1) 17 [.ref 271, iV l1, iV l2, iV l3, iV l4, iV 1, iV l6, iV (l7 + 1), .retAddr 0, .retAddr 0, .retAddr 0] [] u15 Q)) else (K_275 (d + 1) 17 [.ref 271, iV l1, iV l2, iV l3, iV l4, iV l5, iV l6, iV (l7 + 1), .retAddr 0, .retAddr 0, .retAddr 0] [] u Q))))) else (K_275 (d + 1) 17 [.ref 271, iV l1, iV l2, iV l3, iV l4, iV l5, iV l6, iV (l7 + 1), .retAddr 0, .retAddr 0, .retAddr 0] [] u Q))))))))))) : K_275 (d + 1) 167 [.ref 271, iV l1, iV l2, iV l3, iV l4, iV l5, iV l6, iV l7, .retAddr 0, iV l9, iV l10] [] u Q := by
  unfold K_275
  refine u_ld (v := iV l4) (pc := 167) (dec_at lsk_275 (k := 98) rfl) rfl ?_
  have g1 := h.1
  have h := h.2
  refine u_ifT (pc := 169) (tgt := 242) (dec_at lsk_275 (k := 99) rfl) rfl (c0_eq g1) (fun e2 => ?_) (fun e2 => ?_)
  · have h := ifT e2 h
    refine u_inc (lv' := [.ref 271, iV l1, iV l2, iV l3, iV l4, iV l5, iV l6, iV (l7 + 1), .retAddr 0, iV l9, iV l10]) (pc := 242) (dec_at lsk_275 (k := 137) rfl) rfl (by decide) rfl ?_
    refine u_goto (pc := 245) (tgt := 17) (dec_at lsk_275 (k := 138) rfl) rfl ?_
    exact u_weak (sbK (sbK (sbK (sbK (sbK (sbK (sbK (sbK (sbK (sbD (sbD sb0))))))))))) h
  · have h := ifF e2 h
    refine u_ld (v := .ref 271) (pc := 172) (dec_at lsk_275 (k := 100) rfl) rfl ?_
    refine u_gS (o := 57) (p := 328) (pc := 173) (dec_at lsk_275 (k := 101) rfl) f_12_182 sx_271 rfl rfl ?_
    refine u_ld (v := iV l6) (pc := 176) (dec_at lsk_275 (k := 102) rfl) rfl ?_
    refine u_ld (v := iV l7) (pc := 178) (dec_at lsk_275 (k := 103) rfl) rfl ?_
    refine u_iadd (pc := 180) (dec_at lsk_275 (k := 104) rfl) ?_
    have g3 := h.1
    have h := h.2
    have g4 := h.1
    have h := h.2
    refine u_lald (pc := 181) (dec_at lsk_275 (k := 105) rfl) sx_328 g3 g4 ?_
    refine u_ldc2 (x := 6000000000000000000) (pc := 182) (dec_at lsk_275 (k := 106) rfl) con_12_487 (by decide) ?_
    refine u_st (st' := [.int (lg_cmp (Int64.ofInt (u.1 328 (l6 + l7))) (Int64.ofInt 6000000000000000000))]) (pc := 185) (dec_at lsk_275 (k := 107) rfl) rfl ?_
    have g5 := h.1
    have h := h.2
    refine u_ifT (pc := 186) (tgt := 242) (dec_at lsk_275 (k := 108) rfl) rfl (cl_eq g5 (by decide)) (fun e6 => ?_) (fun e6 => ?_)
    · have h := ifT e6 h
      refine u_inc (lv' := [.ref 271, iV l1, iV l2, iV l3, iV l4, iV l5, iV l6, iV (l7 + 1), .retAddr 0, iV l9, iV l10]) (pc := 242) (dec_at lsk_275 (k := 137) rfl) rfl (by decide) rfl ?_
      refine u_goto (pc := 245) (tgt := 17) (dec_at lsk_275 (k := 138) rfl) rfl ?_
      exact u_weak (sbK (sbK (sbK (sbK (sbK (sbK (sbK (sbK (sbK (sbD (sbD sb0))))))))))) h
    · have h := ifF e6 h
      refine u_ld (v := .ref 271) (pc := 189) (dec_at lsk_275 (k := 109) rfl) rfl ?_
      refine u_gS (o := 57) (p := 328) (pc := 190) (dec_at lsk_275 (k := 110) rfl) f_12_182 sx_271 rfl rfl ?_
      refine u_ld (v := iV l6) (pc := 193) (dec_at lsk_275 (k := 111) rfl) rfl ?_
      refine u_ld (v := iV l7) (pc := 195) (dec_at lsk_275 (k := 112) rfl) rfl ?_
      refine u_iadd (pc := 197) (dec_at lsk_275 (k := 113) rfl) ?_
      refine u_lald (pc := 198) (dec_at lsk_275 (k := 114) rfl) sx_328 g3 g4 ?_
      refine u_ld (v := .ref 271) (pc := 199) (dec_at lsk_275 (k := 115) rfl) rfl ?_
      refine u_gS (o := 53) (p := 324) (pc := 200) (dec_at lsk_275 (k := 116) rfl) f_12_169 sx_271 rfl rfl ?_
      refine u_ld (v := iV l10) (pc := 203) (dec_at lsk_275 (k := 117) rfl) rfl ?_
      have g7 := h.1
      have h := h.2
      have g8 := h.1
      have h := h.2
      refine u_lald (pc := 205) (dec_at lsk_275 (k := 118) rfl) sx_324 g7 g8 ?_
      refine u_st (st' := [.int (lg_cmp (Int64.ofInt (u.1 328 (l6 + l7))) (Int64.ofInt (u.1 324 l10)))]) (pc := 206) (dec_at lsk_275 (k := 119) rfl) rfl ?_
      have g9 := h.1
      have h := h.2
      refine u_ifF (pc := 207) (tgt := 242) (dec_at lsk_275 (k := 120) rfl) rfl (cl_ne g5 g9) (fun e10 => ?_) (fun e10 => ?_)
      · have h := ifT e10 h
        refine u_ld (v := iV l9) (pc := 210) (dec_at lsk_275 (k := 121) rfl) rfl ?_
        refine u_ldcw (x := 1000000) (pc := 212) (dec_at lsk_275 (k := 122) rfl) con_12_489 (by decide) ?_
        have g11 := h.1
        have h := h.2
        refine u_icT (pc := 215) (tgt := 242) (dec_at lsk_275 (k := 123) rfl) rfl (ci_gt g11 (by decide)) (fun e12 => ?_) (fun e12 => ?_)
        · have h := ifT e12 h
          refine u_inc (lv' := [.ref 271, iV l1, iV l2, iV l3, iV l4, iV l5, iV l6, iV (l7 + 1), .retAddr 0, iV l9, iV l10]) (pc := 242) (dec_at lsk_275 (k := 137) rfl) rfl (by decide) rfl ?_
          refine u_goto (pc := 245) (tgt := 17) (dec_at lsk_275 (k := 138) rfl) rfl ?_
          exact u_weak (sbK (sbK (sbK (sbK (sbK (sbK (sbK (sbK (sbK (sbD (sbD sb0))))))))))) h
        · have h := ifF e12 h
          refine u_ld (v := iV l9) (pc := 218) (dec_at lsk_275 (k := 124) rfl) rfl ?_
          refine u_ld (v := .ref 271) (pc := 220) (dec_at lsk_275 (k := 125) rfl) rfl ?_
          refine u_gS (o := 54) (p := 325) (pc := 221) (dec_at lsk_275 (k := 126) rfl) f_12_172 sx_271 rfl rfl ?_
          refine u_ld (v := iV l10) (pc := 224) (dec_at lsk_275 (k := 127) rfl) rfl ?_
          refine u_iald (pc := 226) (dec_at lsk_275 (k := 128) rfl) sx_325 g7 g8 ?_
          have g13 := h.1
          have h := h.2
          refine u_icF (pc := 227) (tgt := 242) (dec_at lsk_275 (k := 129) rfl) rfl (ci_ge g11 g13) (fun e14 => ?_) (fun e14 => ?_)
          · have h := ifT e14 h
            refine u_ld (v := .ref 271) (pc := 230) (dec_at lsk_275 (k := 130) rfl) rfl ?_
            refine u_gS (o := 54) (p := 325) (pc := 231) (dec_at lsk_275 (k := 131) rfl) f_12_172 sx_271 rfl rfl ?_
            refine u_ld (v := iV l10) (pc := 234) (dec_at lsk_275 (k := 132) rfl) rfl ?_
            refine u_ld (v := iV l9) (pc := 236) (dec_at lsk_275 (k := 133) rfl) rfl ?_
            refine u_iast (pc := 238) (dec_at lsk_275 (k := 134) rfl) sx_325 g7 g8 (fun u15 e16 => ?_)
            have h := h u15 e16
            refine u_ld (v := iV 1) (pc := 239) (dec_at lsk_275 (k := 135) rfl) rfl ?_
            refine u_sto (lv' := [.ref 271, iV l1, iV l2, iV l3, iV l4, iV 1, iV l6, iV l7, .retAddr 0, iV l9, iV l10]) (pc := 240) (dec_at lsk_275 (k := 136) rfl) rfl ?_
            refine u_inc (lv' := [.ref 271, iV l1, iV l2, iV l3, iV l4, iV 1, iV l6, iV (l7 + 1), .retAddr 0, iV l9, iV l10]) (pc := 242) (dec_at lsk_275 (k := 137) rfl) rfl (by decide) rfl ?_
            refine u_goto (pc := 245) (tgt := 17) (dec_at lsk_275 (k := 138) rfl) rfl ?_
            exact u_weak (sbK (sbK (sbK (sbK (sbK (sbK (sbK (sbK (sbK (sbD (sbD sb0))))))))))) h
          · have h := ifF e14 h
            refine u_inc (lv' := [.ref 271, iV l1, iV l2, iV l3, iV l4, iV l5, iV l6, iV (l7 + 1), .retAddr 0, iV l9, iV l10]) (pc := 242) (dec_at lsk_275 (k := 137) rfl) rfl (by decide) rfl ?_
            refine u_goto (pc := 245) (tgt := 17) (dec_at lsk_275 (k := 138) rfl) rfl ?_
            exact u_weak (sbK (sbK (sbK (sbK (sbK (sbK (sbK (sbK (sbK (sbD (sbD sb0))))))))))) h
      · have h := ifF e10 h
        refine u_inc (lv' := [.ref 271, iV l1, iV l2, iV l3, iV l4, iV l5, iV l6, iV (l7 + 1), .retAddr 0, iV l9, iV l10]) (pc := 242) (dec_at lsk_275 (k := 137) rfl) rfl (by decide) rfl ?_
        refine u_goto (pc := 245) (tgt := 17) (dec_at lsk_275 (k := 138) rfl) rfl ?_
        exact u_weak (sbK (sbK (sbK (sbK (sbK (sbK (sbK (sbK (sbK (sbD (sbD sb0))))))))))) h
