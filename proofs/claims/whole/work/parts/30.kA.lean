/-! Conditions: base (wip/tools/gen_k.py) -/
/-- method 51 -/
def K_51 (d pc : Nat) (lv : ev_L) (st : List Value) (u : uS) (Q : Int → uS → Prop) : Prop := okU d 0 4 false (some .long) prog_1_method_34_code (qL Q) pc lv st u
theorem e_51 {d : Nat} {Q : Int → uS → Prop} {u : uS} {l0 l2 : Int} (h : (rL l0) ∧ (if l0 = 9000000000000000000 then (Q 9000000000000000000 u) else ((rL l2) ∧ (if l2 = 9000000000000000000 then (Q 9000000000000000000 u) else ((rL (l0 + l2)) ∧ (Q (min 4000000000000000000 (l0 + l2)) u)))))) : cL (d + 1) 51 [lV l0, lV l2] u Q := by
  refine u_of me_51 (Nat.le_of_ble_eq_true rfl) ?_
  refine u_ld (v := lV l0) (pc := 0) (dec_at lsk_51 (k := 0) rfl) rfl ?_
  refine u_ldc2 (x := 9000000000000000000) (pc := 1) (dec_at lsk_51 (k := 1) rfl) con_0_188 (by decide) ?_
  refine u_st (st' := [.int (lg_cmp (Int64.ofInt l0) (Int64.ofInt 9000000000000000000))]) (pc := 4) (dec_at lsk_51 (k := 2) rfl) rfl ?_
  have g1 := h.1
  have h := h.2
  refine u_ifT (pc := 5) (tgt := 16) (dec_at lsk_51 (k := 3) rfl) rfl (cl_eq g1 (by decide)) (fun e2 => ?_) (fun e2 => ?_)
  · have h := ifT e2 h
    refine u_ldc2 (x := 9000000000000000000) (pc := 16) (dec_at lsk_51 (k := 8) rfl) con_0_188 (by decide) ?_
    exact u_rL (pc := 19) (dec_at lsk_51 (k := 9) rfl) rfl h
  · have h := ifF e2 h
    refine u_ld (v := lV l2) (pc := 8) (dec_at lsk_51 (k := 4) rfl) rfl ?_
    refine u_ldc2 (x := 9000000000000000000) (pc := 9) (dec_at lsk_51 (k := 5) rfl) con_0_188 (by decide) ?_
    refine u_st (st' := [.int (lg_cmp (Int64.ofInt l2) (Int64.ofInt 9000000000000000000))]) (pc := 12) (dec_at lsk_51 (k := 6) rfl) rfl ?_
    have g3 := h.1
    have h := h.2
    refine u_ifF (pc := 13) (tgt := 20) (dec_at lsk_51 (k := 7) rfl) rfl (cl_ne g3 (by decide)) (fun e4 => ?_) (fun e4 => ?_)
    · have h := ifT e4 h
      refine u_ldc2 (x := 9000000000000000000) (pc := 16) (dec_at lsk_51 (k := 8) rfl) con_0_188 (by decide) ?_
      exact u_rL (pc := 19) (dec_at lsk_51 (k := 9) rfl) rfl h
    · have h := ifF e4 h
      refine u_ldc2 (x := 4000000000000000000) (pc := 20) (dec_at lsk_51 (k := 10) rfl) con_0_310 (by decide) ?_
      refine u_ld (v := lV l0) (pc := 23) (dec_at lsk_51 (k := 11) rfl) rfl ?_
      refine u_ld (v := lV l2) (pc := 24) (dec_at lsk_51 (k := 12) rfl) rfl ?_
      refine u_ladd (pc := 25) (dec_at lsk_51 (k := 13) rfl) ?_
      have g5 := h.1
      have h := h.2
      refine u_minL (pc := 26) (dec_at lsk_51 (k := 14) rfl) m_0_280 (by decide) g5 (Nat.le_of_ble_eq_true rfl) ?_
      exact u_rL (pc := 29) (dec_at lsk_51 (k := 15) rfl) rfl h
/-- method 111 -/
def K_111 (d pc : Nat) (lv : ev_L) (st : List Value) (u : uS) (Q : Int → uS → Prop) : Prop := okU d 0 4 false (some .long) prog_1_method_35_code (qL Q) pc lv st u
theorem e_111 {d : Nat} {Q : Int → uS → Prop} {u : uS} {l0 l2 : Int} (h : (rL l0) ∧ (if l0 = 0 then (Q 0 u) else ((rL l2) ∧ (if l2 = 0 then (Q 0 u) else (if l0 = 9000000000000000000 then (Q 9000000000000000000 u) else (if l2 = 9000000000000000000 then (Q 9000000000000000000 u) else ((l2 ≠ 0) ∧ ((rL ((4000000000000000000 : Int).tdiv l2)) ∧ (if (4000000000000000000 : Int).tdiv l2 < l0 then (Q 4000000000000000000 u) else (Q (l0 * l2) u)))))))))) : cL (d + 1) 111 [lV l0, lV l2] u Q := by
  refine u_of me_111 (Nat.le_of_ble_eq_true rfl) ?_
  refine u_ld (v := lV l0) (pc := 0) (dec_at lsk_111 (k := 0) rfl) rfl ?_
  refine u_cl (x := 0) (pc := 1) (dec_at lsk_111 (k := 1) rfl) rfl (by decide) ?_
  refine u_st (st' := [.int (lg_cmp (Int64.ofInt l0) (Int64.ofInt 0))]) (pc := 2) (dec_at lsk_111 (k := 2) rfl) rfl ?_
  have g1 := h.1
  have h := h.2
  refine u_ifT (pc := 3) (tgt := 12) (dec_at lsk_111 (k := 3) rfl) rfl (cl_eq g1 (by decide)) (fun e2 => ?_) (fun e2 => ?_)
  · have h := ifT e2 h
    refine u_cl (x := 0) (pc := 12) (dec_at lsk_111 (k := 8) rfl) rfl (by decide) ?_
    exact u_rL (pc := 13) (dec_at lsk_111 (k := 9) rfl) rfl h
  · have h := ifF e2 h
    refine u_ld (v := lV l2) (pc := 6) (dec_at lsk_111 (k := 4) rfl) rfl ?_
    refine u_cl (x := 0) (pc := 7) (dec_at lsk_111 (k := 5) rfl) rfl (by decide) ?_
    refine u_st (st' := [.int (lg_cmp (Int64.ofInt l2) (Int64.ofInt 0))]) (pc := 8) (dec_at lsk_111 (k := 6) rfl) rfl ?_
    have g3 := h.1
    have h := h.2
    refine u_ifF (pc := 9) (tgt := 14) (dec_at lsk_111 (k := 7) rfl) rfl (cl_ne g3 (by decide)) (fun e4 => ?_) (fun e4 => ?_)
    · have h := ifT e4 h
      refine u_cl (x := 0) (pc := 12) (dec_at lsk_111 (k := 8) rfl) rfl (by decide) ?_
      exact u_rL (pc := 13) (dec_at lsk_111 (k := 9) rfl) rfl h
    · have h := ifF e4 h
      refine u_ld (v := lV l0) (pc := 14) (dec_at lsk_111 (k := 10) rfl) rfl ?_
      refine u_ldc2 (x := 9000000000000000000) (pc := 15) (dec_at lsk_111 (k := 11) rfl) con_0_188 (by decide) ?_
      refine u_st (st' := [.int (lg_cmp (Int64.ofInt l0) (Int64.ofInt 9000000000000000000))]) (pc := 18) (dec_at lsk_111 (k := 12) rfl) rfl ?_
      refine u_ifT (pc := 19) (tgt := 30) (dec_at lsk_111 (k := 13) rfl) rfl (cl_eq g1 (by decide)) (fun e5 => ?_) (fun e5 => ?_)
      · have h := ifT e5 h
        refine u_ldc2 (x := 9000000000000000000) (pc := 30) (dec_at lsk_111 (k := 18) rfl) con_0_188 (by decide) ?_
        exact u_rL (pc := 33) (dec_at lsk_111 (k := 19) rfl) rfl h
      · have h := ifF e5 h
        refine u_ld (v := lV l2) (pc := 22) (dec_at lsk_111 (k := 14) rfl) rfl ?_
        refine u_ldc2 (x := 9000000000000000000) (pc := 23) (dec_at lsk_111 (k := 15) rfl) con_0_188 (by decide) ?_
        refine u_st (st' := [.int (lg_cmp (Int64.ofInt l2) (Int64.ofInt 9000000000000000000))]) (pc := 26) (dec_at lsk_111 (k := 16) rfl) rfl ?_
        refine u_ifF (pc := 27) (tgt := 34) (dec_at lsk_111 (k := 17) rfl) rfl (cl_ne g3 (by decide)) (fun e6 => ?_) (fun e6 => ?_)
        · have h := ifT e6 h
          refine u_ldc2 (x := 9000000000000000000) (pc := 30) (dec_at lsk_111 (k := 18) rfl) con_0_188 (by decide) ?_
          exact u_rL (pc := 33) (dec_at lsk_111 (k := 19) rfl) rfl h
        · have h := ifF e6 h
          refine u_ld (v := lV l0) (pc := 34) (dec_at lsk_111 (k := 20) rfl) rfl ?_
          refine u_ldc2 (x := 4000000000000000000) (pc := 35) (dec_at lsk_111 (k := 21) rfl) con_0_310 (by decide) ?_
          refine u_ld (v := lV l2) (pc := 38) (dec_at lsk_111 (k := 22) rfl) rfl ?_
          have g7 := h.1
          have h := h.2
          refine u_ldiv (pc := 39) (dec_at lsk_111 (k := 23) rfl) (by decide) g3 g7 ?_
          refine u_st (st' := [.int (lg_cmp (Int64.ofInt l0) (Int64.ofInt ((4000000000000000000 : Int).tdiv l2)))]) (pc := 40) (dec_at lsk_111 (k := 24) rfl) rfl ?_
          have g8 := h.1
          have h := h.2
          refine u_ifF (pc := 41) (tgt := 50) (dec_at lsk_111 (k := 25) rfl) rfl (cl_le g1 g8) (fun e9 => ?_) (fun e9 => ?_)
          · have h := ifT e9 h
            refine u_ldc2 (x := 4000000000000000000) (pc := 44) (dec_at lsk_111 (k := 26) rfl) con_0_310 (by decide) ?_
            refine u_goto (pc := 47) (tgt := 53) (dec_at lsk_111 (k := 27) rfl) rfl ?_
            exact u_rL (pc := 53) (dec_at lsk_111 (k := 31) rfl) rfl h
          · have h := ifF e9 h
            refine u_ld (v := lV l0) (pc := 50) (dec_at lsk_111 (k := 28) rfl) rfl ?_
            refine u_ld (v := lV l2) (pc := 51) (dec_at lsk_111 (k := 29) rfl) rfl ?_
            refine u_lmul (pc := 52) (dec_at lsk_111 (k := 30) rfl) ?_
            exact u_rL (pc := 53) (dec_at lsk_111 (k := 31) rfl) rfl h
/-- method 217 -/
def K_217 (d pc : Nat) (lv : ev_L) (st : List Value) (u : uS) (Q : Int → uS → Prop) : Prop := okU d 12 4 false (some .long) prog_14_method_4_code (qL Q) pc lv st u
theorem e_217 {d : Nat} {Q : Int → uS → Prop} {u : uS} {l0 l2 : Int} (h : (rL l0) ∧ (if l0 = 5000000000000000000 then (Q 5000000000000000000 u) else ((rL l2) ∧ (if l2 = 5000000000000000000 then (Q 5000000000000000000 u) else ((rL (l0 + l2)) ∧ (if 4000000000000000000 < l0 + l2 then (Q 4000000000000000000 u) else (if l0 + l2 < 0 then (Q 4000000000000000000 u) else (Q (l0 + l2) u)))))))) : cL (d + 1) 217 [lV l0, lV l2] u Q := by
  refine u_of me_217 (Nat.le_of_ble_eq_true rfl) ?_
  refine u_ld (v := lV l0) (pc := 0) (dec_at lsk_217 (k := 0) rfl) rfl ?_
  refine u_ldc2 (x := 5000000000000000000) (pc := 1) (dec_at lsk_217 (k := 1) rfl) con_12_242 (by decide) ?_
  refine u_st (st' := [.int (lg_cmp (Int64.ofInt l0) (Int64.ofInt 5000000000000000000))]) (pc := 4) (dec_at lsk_217 (k := 2) rfl) rfl ?_
  have g1 := h.1
  have h := h.2
  refine u_ifT (pc := 5) (tgt := 16) (dec_at lsk_217 (k := 3) rfl) rfl (cl_eq g1 (by decide)) (fun e2 => ?_) (fun e2 => ?_)
  · have h := ifT e2 h
    refine u_ldc2 (x := 5000000000000000000) (pc := 16) (dec_at lsk_217 (k := 8) rfl) con_12_242 (by decide) ?_
    refine u_goto (pc := 19) (tgt := 49) (dec_at lsk_217 (k := 9) rfl) rfl ?_
    exact u_rL (pc := 49) (dec_at lsk_217 (k := 27) rfl) rfl h
  · have h := ifF e2 h
    refine u_ld (v := lV l2) (pc := 8) (dec_at lsk_217 (k := 4) rfl) rfl ?_
    refine u_ldc2 (x := 5000000000000000000) (pc := 9) (dec_at lsk_217 (k := 5) rfl) con_12_242 (by decide) ?_
    refine u_st (st' := [.int (lg_cmp (Int64.ofInt l2) (Int64.ofInt 5000000000000000000))]) (pc := 12) (dec_at lsk_217 (k := 6) rfl) rfl ?_
    have g3 := h.1
    have h := h.2
    refine u_ifF (pc := 13) (tgt := 22) (dec_at lsk_217 (k := 7) rfl) rfl (cl_ne g3 (by decide)) (fun e4 => ?_) (fun e4 => ?_)
    · have h := ifT e4 h
      refine u_ldc2 (x := 5000000000000000000) (pc := 16) (dec_at lsk_217 (k := 8) rfl) con_12_242 (by decide) ?_
      refine u_goto (pc := 19) (tgt := 49) (dec_at lsk_217 (k := 9) rfl) rfl ?_
      exact u_rL (pc := 49) (dec_at lsk_217 (k := 27) rfl) rfl h
    · have h := ifF e4 h
      refine u_ld (v := lV l0) (pc := 22) (dec_at lsk_217 (k := 10) rfl) rfl ?_
      refine u_ld (v := lV l2) (pc := 23) (dec_at lsk_217 (k := 11) rfl) rfl ?_
      refine u_ladd (pc := 24) (dec_at lsk_217 (k := 12) rfl) ?_
      refine u_ldc2 (x := 4000000000000000000) (pc := 25) (dec_at lsk_217 (k := 13) rfl) con_12_244 (by decide) ?_
      refine u_st (st' := [.int (lg_cmp (Int64.ofInt (l0 + l2)) (Int64.ofInt 4000000000000000000))]) (pc := 28) (dec_at lsk_217 (k := 14) rfl) rfl ?_
      have g5 := h.1
      have h := h.2
      refine u_ifT (pc := 29) (tgt := 40) (dec_at lsk_217 (k := 15) rfl) rfl (cl_gt g5 (by decide)) (fun e6 => ?_) (fun e6 => ?_)
      · have h := ifT e6 h
        refine u_ldc2 (x := 4000000000000000000) (pc := 40) (dec_at lsk_217 (k := 22) rfl) con_12_244 (by decide) ?_
        refine u_goto (pc := 43) (tgt := 49) (dec_at lsk_217 (k := 23) rfl) rfl ?_
        exact u_rL (pc := 49) (dec_at lsk_217 (k := 27) rfl) rfl h
      · have h := ifF e6 h
        refine u_ld (v := lV l0) (pc := 32) (dec_at lsk_217 (k := 16) rfl) rfl ?_
        refine u_ld (v := lV l2) (pc := 33) (dec_at lsk_217 (k := 17) rfl) rfl ?_
        refine u_ladd (pc := 34) (dec_at lsk_217 (k := 18) rfl) ?_
        refine u_cl (x := 0) (pc := 35) (dec_at lsk_217 (k := 19) rfl) rfl (by decide) ?_
        refine u_st (st' := [.int (lg_cmp (Int64.ofInt (l0 + l2)) (Int64.ofInt 0))]) (pc := 36) (dec_at lsk_217 (k := 20) rfl) rfl ?_
        refine u_ifF (pc := 37) (tgt := 46) (dec_at lsk_217 (k := 21) rfl) rfl (cl_ge g5 (by decide)) (fun e7 => ?_) (fun e7 => ?_)
        · have h := ifT e7 h
          refine u_ldc2 (x := 4000000000000000000) (pc := 40) (dec_at lsk_217 (k := 22) rfl) con_12_244 (by decide) ?_
          refine u_goto (pc := 43) (tgt := 49) (dec_at lsk_217 (k := 23) rfl) rfl ?_
          exact u_rL (pc := 49) (dec_at lsk_217 (k := 27) rfl) rfl h
        · have h := ifF e7 h
          refine u_ld (v := lV l0) (pc := 46) (dec_at lsk_217 (k := 24) rfl) rfl ?_
          refine u_ld (v := lV l2) (pc := 47) (dec_at lsk_217 (k := 25) rfl) rfl ?_
          refine u_ladd (pc := 48) (dec_at lsk_217 (k := 26) rfl) ?_
          exact u_rL (pc := 49) (dec_at lsk_217 (k := 27) rfl) rfl h
/-- method 227 -/
def K_227 (d pc : Nat) (lv : ev_L) (st : List Value) (u : uS) (Q : Int → uS → Prop) : Prop := okU d 12 4 false (some .long) prog_14_method_5_code (qL Q) pc lv st u
theorem e_227 {d : Nat} {Q : Int → uS → Prop} {u : uS} {l0 l2 : Int} (h : (rL l0) ∧ (if l0 = 0 then (Q 0 u) else ((rL l2) ∧ (if l2 = 0 then (Q 0 u) else (if l0 = 5000000000000000000 then (Q 5000000000000000000 u) else (if l2 = 5000000000000000000 then (Q 5000000000000000000 u) else ((l2 ≠ 0) ∧ ((rL ((4000000000000000000 : Int).tdiv l2)) ∧ (if (4000000000000000000 : Int).tdiv l2 < l0 then (Q 4000000000000000000 u) else (Q (l0 * l2) u)))))))))) : cL (d + 1) 227 [lV l0, lV l2] u Q := by
  refine u_of me_227 (Nat.le_of_ble_eq_true rfl) ?_
  refine u_ld (v := lV l0) (pc := 0) (dec_at lsk_227 (k := 0) rfl) rfl ?_
  refine u_cl (x := 0) (pc := 1) (dec_at lsk_227 (k := 1) rfl) rfl (by decide) ?_
  refine u_st (st' := [.int (lg_cmp (Int64.ofInt l0) (Int64.ofInt 0))]) (pc := 2) (dec_at lsk_227 (k := 2) rfl) rfl ?_
  have g1 := h.1
  have h := h.2
  refine u_ifT (pc := 3) (tgt := 12) (dec_at lsk_227 (k := 3) rfl) rfl (cl_eq g1 (by decide)) (fun e2 => ?_) (fun e2 => ?_)
  · have h := ifT e2 h
    refine u_cl (x := 0) (pc := 12) (dec_at lsk_227 (k := 8) rfl) rfl (by decide) ?_
    exact u_rL (pc := 13) (dec_at lsk_227 (k := 9) rfl) rfl h
  · have h := ifF e2 h
    refine u_ld (v := lV l2) (pc := 6) (dec_at lsk_227 (k := 4) rfl) rfl ?_
    refine u_cl (x := 0) (pc := 7) (dec_at lsk_227 (k := 5) rfl) rfl (by decide) ?_
    refine u_st (st' := [.int (lg_cmp (Int64.ofInt l2) (Int64.ofInt 0))]) (pc := 8) (dec_at lsk_227 (k := 6) rfl) rfl ?_
    have g3 := h.1
    have h := h.2
    refine u_ifF (pc := 9) (tgt := 14) (dec_at lsk_227 (k := 7) rfl) rfl (cl_ne g3 (by decide)) (fun e4 => ?_) (fun e4 => ?_)
    · have h := ifT e4 h
      refine u_cl (x := 0) (pc := 12) (dec_at lsk_227 (k := 8) rfl) rfl (by decide) ?_
      exact u_rL (pc := 13) (dec_at lsk_227 (k := 9) rfl) rfl h
    · have h := ifF e4 h
      refine u_ld (v := lV l0) (pc := 14) (dec_at lsk_227 (k := 10) rfl) rfl ?_
      refine u_ldc2 (x := 5000000000000000000) (pc := 15) (dec_at lsk_227 (k := 11) rfl) con_12_242 (by decide) ?_
      refine u_st (st' := [.int (lg_cmp (Int64.ofInt l0) (Int64.ofInt 5000000000000000000))]) (pc := 18) (dec_at lsk_227 (k := 12) rfl) rfl ?_
      refine u_ifT (pc := 19) (tgt := 30) (dec_at lsk_227 (k := 13) rfl) rfl (cl_eq g1 (by decide)) (fun e5 => ?_) (fun e5 => ?_)
      · have h := ifT e5 h
        refine u_ldc2 (x := 5000000000000000000) (pc := 30) (dec_at lsk_227 (k := 18) rfl) con_12_242 (by decide) ?_
        exact u_rL (pc := 33) (dec_at lsk_227 (k := 19) rfl) rfl h
      · have h := ifF e5 h
        refine u_ld (v := lV l2) (pc := 22) (dec_at lsk_227 (k := 14) rfl) rfl ?_
        refine u_ldc2 (x := 5000000000000000000) (pc := 23) (dec_at lsk_227 (k := 15) rfl) con_12_242 (by decide) ?_
        refine u_st (st' := [.int (lg_cmp (Int64.ofInt l2) (Int64.ofInt 5000000000000000000))]) (pc := 26) (dec_at lsk_227 (k := 16) rfl) rfl ?_
        refine u_ifF (pc := 27) (tgt := 34) (dec_at lsk_227 (k := 17) rfl) rfl (cl_ne g3 (by decide)) (fun e6 => ?_) (fun e6 => ?_)
        · have h := ifT e6 h
          refine u_ldc2 (x := 5000000000000000000) (pc := 30) (dec_at lsk_227 (k := 18) rfl) con_12_242 (by decide) ?_
          exact u_rL (pc := 33) (dec_at lsk_227 (k := 19) rfl) rfl h
        · have h := ifF e6 h
          refine u_ld (v := lV l0) (pc := 34) (dec_at lsk_227 (k := 20) rfl) rfl ?_
          refine u_ldc2 (x := 4000000000000000000) (pc := 35) (dec_at lsk_227 (k := 21) rfl) con_12_244 (by decide) ?_
          refine u_ld (v := lV l2) (pc := 38) (dec_at lsk_227 (k := 22) rfl) rfl ?_
          have g7 := h.1
          have h := h.2
          refine u_ldiv (pc := 39) (dec_at lsk_227 (k := 23) rfl) (by decide) g3 g7 ?_
          refine u_st (st' := [.int (lg_cmp (Int64.ofInt l0) (Int64.ofInt ((4000000000000000000 : Int).tdiv l2)))]) (pc := 40) (dec_at lsk_227 (k := 24) rfl) rfl ?_
          have g8 := h.1
          have h := h.2
          refine u_ifF (pc := 41) (tgt := 50) (dec_at lsk_227 (k := 25) rfl) rfl (cl_le g1 g8) (fun e9 => ?_) (fun e9 => ?_)
          · have h := ifT e9 h
            refine u_ldc2 (x := 4000000000000000000) (pc := 44) (dec_at lsk_227 (k := 26) rfl) con_12_244 (by decide) ?_
            refine u_goto (pc := 47) (tgt := 53) (dec_at lsk_227 (k := 27) rfl) rfl ?_
            exact u_rL (pc := 53) (dec_at lsk_227 (k := 31) rfl) rfl h
          · have h := ifF e9 h
            refine u_ld (v := lV l0) (pc := 50) (dec_at lsk_227 (k := 28) rfl) rfl ?_
            refine u_ld (v := lV l2) (pc := 51) (dec_at lsk_227 (k := 29) rfl) rfl ?_
            refine u_lmul (pc := 52) (dec_at lsk_227 (k := 30) rfl) ?_
            exact u_rL (pc := 53) (dec_at lsk_227 (k := 31) rfl) rfl h
/-- method 77 -/
def K_77 (d pc : Nat) (lv : ev_L) (st : List Value) (u : uS) (Q : Int → uS → Prop) : Prop := okU d 17 3 false (some .int) prog_16_method_49_code (qI Q) pc lv st u
theorem e_77 {d : Nat} {Q : Int → uS → Prop} {u : uS} {l0 : Int} (h : if wI l0 = 0 then (cI d 78 [iV (wI (lushr l0 32))] u (fun r3 u2 => Q (32 + r3) u2)) else (cI d 78 [iV (wI l0)] u (fun r5 u4 => Q r5 u4))) : cI (d + 1) 77 [lV l0] u Q := by
  refine u_of me_77 (Nat.le_of_ble_eq_true rfl) ?_
  refine u_ld (v := lV l0) (pc := 0) (dec_at lsk_77 (k := 0) rfl) rfl ?_
  refine u_l2w (pc := 1) (dec_at lsk_77 (k := 1) rfl) ?_
  refine u_sto (lv' := [lV l0, .retAddr 0, iV (wI l0)]) (pc := 2) (dec_at lsk_77 (k := 2) rfl) rfl ?_
  refine u_ld (v := iV (wI l0)) (pc := 3) (dec_at lsk_77 (k := 3) rfl) rfl ?_
  refine u_ifF (pc := 4) (tgt := 21) (dec_at lsk_77 (k := 4) rfl) rfl (c0_ne (ri_toInt _)) (fun e1 => ?_) (fun e1 => ?_)
  · have h := ifT e1 h
    refine u_c (x := 32) (pc := 7) (dec_at lsk_77 (k := 5) rfl) rfl (by decide) ?_
    refine u_ld (v := lV l0) (pc := 9) (dec_at lsk_77 (k := 6) rfl) rfl ?_
    refine u_c (x := 32) (pc := 10) (dec_at lsk_77 (k := 7) rfl) rfl (by decide) ?_
    refine u_lushr (pc := 12) (dec_at lsk_77 (k := 8) rfl) ?_
    refine u_l2w (pc := 13) (dec_at lsk_77 (k := 9) rfl) ?_
    refine u_csI (As := [iV (wI (lushr l0 32))]) (st2 := [iV 32]) (pc := 14) (dec_at lsk_77 (k := 10) rfl) m_17_311 (Or.inl rfl) rfl (Nat.le_of_ble_eq_true rfl) h (fun r3 u2 h => ?_)
    refine u_iadd (pc := 17) (dec_at lsk_77 (k := 11) rfl) ?_
    refine u_goto (pc := 18) (tgt := 25) (dec_at lsk_77 (k := 12) rfl) rfl ?_
    exact u_rI (pc := 25) (dec_at lsk_77 (k := 15) rfl) rfl h
  · have h := ifF e1 h
    refine u_ld (v := iV (wI l0)) (pc := 21) (dec_at lsk_77 (k := 13) rfl) rfl ?_
    refine u_csI (As := [iV (wI l0)]) (st2 := []) (pc := 22) (dec_at lsk_77 (k := 14) rfl) m_17_311 (Or.inl rfl) rfl (Nat.le_of_ble_eq_true rfl) h (fun r5 u4 h => ?_)
    exact u_rI (pc := 25) (dec_at lsk_77 (k := 15) rfl) rfl h
/-- method 78 -/
def K_78 (d pc : Nat) (lv : ev_L) (st : List Value) (u : uS) (Q : Int → uS → Prop) : Prop := okU d 18 2 false (some .int) prog_15_method_48_code (qI Q) pc lv st u
theorem e_78 {d : Nat} {Q : Int → uS → Prop} {u : uS} {l0 : Int} (h : if 0 < iand (ixor l0 (-1)) (l0 - 1) then (if 65536 < iand (ixor l0 (-1)) (l0 - 1) then (if 256 < iushr (iand (ixor l0 (-1)) (l0 - 1)) 16 then (if 16 < iushr (iushr (iand (ixor l0 (-1)) (l0 - 1)) 16) 8 then (if 4 < iushr (iushr (iushr (iand (ixor l0 (-1)) (l0 - 1)) 16) 8) 4 then (Q (((((1 + 16) + 8) + 4) + 2) + (iushr (iushr (iushr (iushr (iushr (iand (ixor l0 (-1)) (l0 - 1)) 16) 8) 4) 2) 1)) u) else (Q ((((1 + 16) + 8) + 4) + (iushr (iushr (iushr (iushr (iand (ixor l0 (-1)) (l0 - 1)) 16) 8) 4) 1)) u)) else (if 4 < iushr (iushr (iand (ixor l0 (-1)) (l0 - 1)) 16) 8 then (Q ((((1 + 16) + 8) + 2) + (iushr (iushr (iushr (iushr (iand (ixor l0 (-1)) (l0 - 1)) 16) 8) 2) 1)) u) else (Q (((1 + 16) + 8) + (iushr (iushr (iushr (iand (ixor l0 (-1)) (l0 - 1)) 16) 8) 1)) u))) else (if 16 < iushr (iand (ixor l0 (-1)) (l0 - 1)) 16 then (if 4 < iushr (iushr (iand (ixor l0 (-1)) (l0 - 1)) 16) 4 then (Q ((((1 + 16) + 4) + 2) + (iushr (iushr (iushr (iushr (iand (ixor l0 (-1)) (l0 - 1)) 16) 4) 2) 1)) u) else (Q (((1 + 16) + 4) + (iushr (iushr (iushr (iand (ixor l0 (-1)) (l0 - 1)) 16) 4) 1)) u)) else (if 4 < iushr (iand (ixor l0 (-1)) (l0 - 1)) 16 then (Q (((1 + 16) + 2) + (iushr (iushr (iushr (iand (ixor l0 (-1)) (l0 - 1)) 16) 2) 1)) u) else (Q ((1 + 16) + (iushr (iushr (iand (ixor l0 (-1)) (l0 - 1)) 16) 1)) u)))) else (if 256 < iand (ixor l0 (-1)) (l0 - 1) then (if 16 < iushr (iand (ixor l0 (-1)) (l0 - 1)) 8 then (if 4 < iushr (iushr (iand (ixor l0 (-1)) (l0 - 1)) 8) 4 then (Q ((((1 + 8) + 4) + 2) + (iushr (iushr (iushr (iushr (iand (ixor l0 (-1)) (l0 - 1)) 8) 4) 2) 1)) u) else (Q (((1 + 8) + 4) + (iushr (iushr (iushr (iand (ixor l0 (-1)) (l0 - 1)) 8) 4) 1)) u)) else (if 4 < iushr (iand (ixor l0 (-1)) (l0 - 1)) 8 then (Q (((1 + 8) + 2) + (iushr (iushr (iushr (iand (ixor l0 (-1)) (l0 - 1)) 8) 2) 1)) u) else (Q ((1 + 8) + (iushr (iushr (iand (ixor l0 (-1)) (l0 - 1)) 8) 1)) u))) else (if 16 < iand (ixor l0 (-1)) (l0 - 1) then (if 4 < iushr (iand (ixor l0 (-1)) (l0 - 1)) 4 then (Q (((1 + 4) + 2) + (iushr (iushr (iushr (iand (ixor l0 (-1)) (l0 - 1)) 4) 2) 1)) u) else (Q ((1 + 4) + (iushr (iushr (iand (ixor l0 (-1)) (l0 - 1)) 4) 1)) u)) else (if 4 < iand (ixor l0 (-1)) (l0 - 1) then (Q ((1 + 2) + (iushr (iushr (iand (ixor l0 (-1)) (l0 - 1)) 2) 1)) u) else (Q (1 + (iushr (iand (ixor l0 (-1)) (l0 - 1)) 1)) u))))) else (Q (iand (iand (ixor l0 (-1)) (l0 - 1)) 32) u)) : cI (d + 1) 78 [iV l0] u Q := by
  refine u_of me_78 (Nat.le_of_ble_eq_true rfl) ?_
  refine u_ld (v := iV l0) (pc := 0) (dec_at lsk_78 (k := 0) rfl) rfl ?_
  refine u_ld (v := iV (-1)) (pc := 1) (dec_at lsk_78 (k := 1) rfl) rfl ?_
  refine u_ixor (pc := 2) (dec_at lsk_78 (k := 2) rfl) ?_
  refine u_ld (v := iV l0) (pc := 3) (dec_at lsk_78 (k := 3) rfl) rfl ?_
  refine u_ld (v := iV 1) (pc := 4) (dec_at lsk_78 (k := 4) rfl) rfl ?_
  refine u_isub (pc := 5) (dec_at lsk_78 (k := 5) rfl) ?_
  refine u_iand (pc := 6) (dec_at lsk_78 (k := 6) rfl) ?_
  refine u_sto (lv' := [iV (iand (ixor l0 (-1)) (l0 - 1)), .retAddr 0]) (pc := 7) (dec_at lsk_78 (k := 7) rfl) rfl ?_
  refine u_ld (v := iV (iand (ixor l0 (-1)) (l0 - 1))) (pc := 8) (dec_at lsk_78 (k := 8) rfl) rfl ?_
  refine u_ifT (pc := 9) (tgt := 17) (dec_at lsk_78 (k := 9) rfl) rfl (c0_gt (ri_toInt _)) (fun e1 => ?_) (fun e1 => ?_)
  · have h := ifT e1 h
    refine u_ld (v := iV 1) (pc := 17) (dec_at lsk_78 (k := 14) rfl) rfl ?_
    refine u_sto (lv' := [iV (iand (ixor l0 (-1)) (l0 - 1)), iV 1]) (pc := 18) (dec_at lsk_78 (k := 15) rfl) rfl ?_
    refine u_ld (v := iV (iand (ixor l0 (-1)) (l0 - 1))) (pc := 19) (dec_at lsk_78 (k := 16) rfl) rfl ?_
    refine u_ldcw (x := 65536) (pc := 20) (dec_at lsk_78 (k := 17) rfl) con_18_264 (by decide) ?_
    refine u_icF (pc := 23) (tgt := 34) (dec_at lsk_78 (k := 18) rfl) rfl (ci_le (ri_toInt _) (by decide)) (fun e2 => ?_) (fun e2 => ?_)
    · have h := ifT e2 h
      refine u_inc (lv' := [iV (iand (ixor l0 (-1)) (l0 - 1)), iV (1 + 16)]) (pc := 26) (dec_at lsk_78 (k := 19) rfl) rfl (by decide) rfl ?_
      refine u_ld (v := iV (iand (ixor l0 (-1)) (l0 - 1))) (pc := 29) (dec_at lsk_78 (k := 20) rfl) rfl ?_
      refine u_c (x := 16) (pc := 30) (dec_at lsk_78 (k := 21) rfl) rfl (by decide) ?_
      refine u_iushr (pc := 32) (dec_at lsk_78 (k := 22) rfl) ?_
      refine u_sto (lv' := [iV (iushr (iand (ixor l0 (-1)) (l0 - 1)) 16), iV (1 + 16)]) (pc := 33) (dec_at lsk_78 (k := 23) rfl) rfl ?_
      refine u_ld (v := iV (iushr (iand (ixor l0 (-1)) (l0 - 1)) 16)) (pc := 34) (dec_at lsk_78 (k := 24) rfl) rfl ?_
      refine u_c (x := 256) (pc := 35) (dec_at lsk_78 (k := 25) rfl) rfl (by decide) ?_
      refine u_icF (pc := 38) (tgt := 49) (dec_at lsk_78 (k := 26) rfl) rfl (ci_le (ri_toInt _) (by decide)) (fun e3 => ?_) (fun e3 => ?_)
      · have h := ifT e3 h
        refine u_inc (lv' := [iV (iushr (iand (ixor l0 (-1)) (l0 - 1)) 16), iV ((1 + 16) + 8)]) (pc := 41) (dec_at lsk_78 (k := 27) rfl) rfl (by decide) rfl ?_
        refine u_ld (v := iV (iushr (iand (ixor l0 (-1)) (l0 - 1)) 16)) (pc := 44) (dec_at lsk_78 (k := 28) rfl) rfl ?_
        refine u_c (x := 8) (pc := 45) (dec_at lsk_78 (k := 29) rfl) rfl (by decide) ?_
        refine u_iushr (pc := 47) (dec_at lsk_78 (k := 30) rfl) ?_
        refine u_sto (lv' := [iV (iushr (iushr (iand (ixor l0 (-1)) (l0 - 1)) 16) 8), iV ((1 + 16) + 8)]) (pc := 48) (dec_at lsk_78 (k := 31) rfl) rfl ?_
        refine u_ld (v := iV (iushr (iushr (iand (ixor l0 (-1)) (l0 - 1)) 16) 8)) (pc := 49) (dec_at lsk_78 (k := 32) rfl) rfl ?_
        refine u_c (x := 16) (pc := 50) (dec_at lsk_78 (k := 33) rfl) rfl (by decide) ?_
        refine u_icF (pc := 52) (tgt := 62) (dec_at lsk_78 (k := 34) rfl) rfl (ci_le (ri_toInt _) (by decide)) (fun e4 => ?_) (fun e4 => ?_)
        · have h := ifT e4 h
          refine u_inc (lv' := [iV (iushr (iushr (iand (ixor l0 (-1)) (l0 - 1)) 16) 8), iV (((1 + 16) + 8) + 4)]) (pc := 55) (dec_at lsk_78 (k := 35) rfl) rfl (by decide) rfl ?_
          refine u_ld (v := iV (iushr (iushr (iand (ixor l0 (-1)) (l0 - 1)) 16) 8)) (pc := 58) (dec_at lsk_78 (k := 36) rfl) rfl ?_
          refine u_ld (v := iV 4) (pc := 59) (dec_at lsk_78 (k := 37) rfl) rfl ?_
          refine u_iushr (pc := 60) (dec_at lsk_78 (k := 38) rfl) ?_
          refine u_sto (lv' := [iV (iushr (iushr (iushr (iand (ixor l0 (-1)) (l0 - 1)) 16) 8) 4), iV (((1 + 16) + 8) + 4)]) (pc := 61) (dec_at lsk_78 (k := 39) rfl) rfl ?_
          refine u_ld (v := iV (iushr (iushr (iushr (iand (ixor l0 (-1)) (l0 - 1)) 16) 8) 4)) (pc := 62) (dec_at lsk_78 (k := 40) rfl) rfl ?_
          refine u_ld (v := iV 4) (pc := 63) (dec_at lsk_78 (k := 41) rfl) rfl ?_
          refine u_icF (pc := 64) (tgt := 74) (dec_at lsk_78 (k := 42) rfl) rfl (ci_le (ri_toInt _) (by decide)) (fun e5 => ?_) (fun e5 => ?_)
          · have h := ifT e5 h
            refine u_inc (lv' := [iV (iushr (iushr (iushr (iand (ixor l0 (-1)) (l0 - 1)) 16) 8) 4), iV ((((1 + 16) + 8) + 4) + 2)]) (pc := 67) (dec_at lsk_78 (k := 43) rfl) rfl (by decide) rfl ?_
            refine u_ld (v := iV (iushr (iushr (iushr (iand (ixor l0 (-1)) (l0 - 1)) 16) 8) 4)) (pc := 70) (dec_at lsk_78 (k := 44) rfl) rfl ?_
            refine u_ld (v := iV 2) (pc := 71) (dec_at lsk_78 (k := 45) rfl) rfl ?_
            refine u_iushr (pc := 72) (dec_at lsk_78 (k := 46) rfl) ?_
            refine u_sto (lv' := [iV (iushr (iushr (iushr (iushr (iand (ixor l0 (-1)) (l0 - 1)) 16) 8) 4) 2), iV ((((1 + 16) + 8) + 4) + 2)]) (pc := 73) (dec_at lsk_78 (k := 47) rfl) rfl ?_
            refine u_ld (v := iV ((((1 + 16) + 8) + 4) + 2)) (pc := 74) (dec_at lsk_78 (k := 48) rfl) rfl ?_
            refine u_ld (v := iV (iushr (iushr (iushr (iushr (iand (ixor l0 (-1)) (l0 - 1)) 16) 8) 4) 2)) (pc := 75) (dec_at lsk_78 (k := 49) rfl) rfl ?_
            refine u_ld (v := iV 1) (pc := 76) (dec_at lsk_78 (k := 50) rfl) rfl ?_
            refine u_iushr (pc := 77) (dec_at lsk_78 (k := 51) rfl) ?_
            refine u_iadd (pc := 78) (dec_at lsk_78 (k := 52) rfl) ?_
            exact u_rI (pc := 79) (dec_at lsk_78 (k := 53) rfl) rfl h
          · have h := ifF e5 h
            refine u_ld (v := iV (((1 + 16) + 8) + 4)) (pc := 74) (dec_at lsk_78 (k := 48) rfl) rfl ?_
            refine u_ld (v := iV (iushr (iushr (iushr (iand (ixor l0 (-1)) (l0 - 1)) 16) 8) 4)) (pc := 75) (dec_at lsk_78 (k := 49) rfl) rfl ?_
            refine u_ld (v := iV 1) (pc := 76) (dec_at lsk_78 (k := 50) rfl) rfl ?_
            refine u_iushr (pc := 77) (dec_at lsk_78 (k := 51) rfl) ?_
            refine u_iadd (pc := 78) (dec_at lsk_78 (k := 52) rfl) ?_
            exact u_rI (pc := 79) (dec_at lsk_78 (k := 53) rfl) rfl h
        · have h := ifF e4 h
          refine u_ld (v := iV (iushr (iushr (iand (ixor l0 (-1)) (l0 - 1)) 16) 8)) (pc := 62) (dec_at lsk_78 (k := 40) rfl) rfl ?_
          refine u_ld (v := iV 4) (pc := 63) (dec_at lsk_78 (k := 41) rfl) rfl ?_
          refine u_icF (pc := 64) (tgt := 74) (dec_at lsk_78 (k := 42) rfl) rfl (ci_le (ri_toInt _) (by decide)) (fun e6 => ?_) (fun e6 => ?_)
          · have h := ifT e6 h
            refine u_inc (lv' := [iV (iushr (iushr (iand (ixor l0 (-1)) (l0 - 1)) 16) 8), iV (((1 + 16) + 8) + 2)]) (pc := 67) (dec_at lsk_78 (k := 43) rfl) rfl (by decide) rfl ?_
            refine u_ld (v := iV (iushr (iushr (iand (ixor l0 (-1)) (l0 - 1)) 16) 8)) (pc := 70) (dec_at lsk_78 (k := 44) rfl) rfl ?_
            refine u_ld (v := iV 2) (pc := 71) (dec_at lsk_78 (k := 45) rfl) rfl ?_
            refine u_iushr (pc := 72) (dec_at lsk_78 (k := 46) rfl) ?_
            refine u_sto (lv' := [iV (iushr (iushr (iushr (iand (ixor l0 (-1)) (l0 - 1)) 16) 8) 2), iV (((1 + 16) + 8) + 2)]) (pc := 73) (dec_at lsk_78 (k := 47) rfl) rfl ?_
            refine u_ld (v := iV (((1 + 16) + 8) + 2)) (pc := 74) (dec_at lsk_78 (k := 48) rfl) rfl ?_
            refine u_ld (v := iV (iushr (iushr (iushr (iand (ixor l0 (-1)) (l0 - 1)) 16) 8) 2)) (pc := 75) (dec_at lsk_78 (k := 49) rfl) rfl ?_
            refine u_ld (v := iV 1) (pc := 76) (dec_at lsk_78 (k := 50) rfl) rfl ?_
            refine u_iushr (pc := 77) (dec_at lsk_78 (k := 51) rfl) ?_
            refine u_iadd (pc := 78) (dec_at lsk_78 (k := 52) rfl) ?_
            exact u_rI (pc := 79) (dec_at lsk_78 (k := 53) rfl) rfl h
          · have h := ifF e6 h
            refine u_ld (v := iV ((1 + 16) + 8)) (pc := 74) (dec_at lsk_78 (k := 48) rfl) rfl ?_
            refine u_ld (v := iV (iushr (iushr (iand (ixor l0 (-1)) (l0 - 1)) 16) 8)) (pc := 75) (dec_at lsk_78 (k := 49) rfl) rfl ?_
            refine u_ld (v := iV 1) (pc := 76) (dec_at lsk_78 (k := 50) rfl) rfl ?_
            refine u_iushr (pc := 77) (dec_at lsk_78 (k := 51) rfl) ?_
            refine u_iadd (pc := 78) (dec_at lsk_78 (k := 52) rfl) ?_
            exact u_rI (pc := 79) (dec_at lsk_78 (k := 53) rfl) rfl h
      · have h := ifF e3 h
        refine u_ld (v := iV (iushr (iand (ixor l0 (-1)) (l0 - 1)) 16)) (pc := 49) (dec_at lsk_78 (k := 32) rfl) rfl ?_
        refine u_c (x := 16) (pc := 50) (dec_at lsk_78 (k := 33) rfl) rfl (by decide) ?_
        refine u_icF (pc := 52) (tgt := 62) (dec_at lsk_78 (k := 34) rfl) rfl (ci_le (ri_toInt _) (by decide)) (fun e7 => ?_) (fun e7 => ?_)
        · have h := ifT e7 h
          refine u_inc (lv' := [iV (iushr (iand (ixor l0 (-1)) (l0 - 1)) 16), iV ((1 + 16) + 4)]) (pc := 55) (dec_at lsk_78 (k := 35) rfl) rfl (by decide) rfl ?_
          refine u_ld (v := iV (iushr (iand (ixor l0 (-1)) (l0 - 1)) 16)) (pc := 58) (dec_at lsk_78 (k := 36) rfl) rfl ?_
          refine u_ld (v := iV 4) (pc := 59) (dec_at lsk_78 (k := 37) rfl) rfl ?_
          refine u_iushr (pc := 60) (dec_at lsk_78 (k := 38) rfl) ?_
          refine u_sto (lv' := [iV (iushr (iushr (iand (ixor l0 (-1)) (l0 - 1)) 16) 4), iV ((1 + 16) + 4)]) (pc := 61) (dec_at lsk_78 (k := 39) rfl) rfl ?_
          refine u_ld (v := iV (iushr (iushr (iand (ixor l0 (-1)) (l0 - 1)) 16) 4)) (pc := 62) (dec_at lsk_78 (k := 40) rfl) rfl ?_
          refine u_ld (v := iV 4) (pc := 63) (dec_at lsk_78 (k := 41) rfl) rfl ?_
          refine u_icF (pc := 64) (tgt := 74) (dec_at lsk_78 (k := 42) rfl) rfl (ci_le (ri_toInt _) (by decide)) (fun e8 => ?_) (fun e8 => ?_)
          · have h := ifT e8 h
            refine u_inc (lv' := [iV (iushr (iushr (iand (ixor l0 (-1)) (l0 - 1)) 16) 4), iV (((1 + 16) + 4) + 2)]) (pc := 67) (dec_at lsk_78 (k := 43) rfl) rfl (by decide) rfl ?_
            refine u_ld (v := iV (iushr (iushr (iand (ixor l0 (-1)) (l0 - 1)) 16) 4)) (pc := 70) (dec_at lsk_78 (k := 44) rfl) rfl ?_
            refine u_ld (v := iV 2) (pc := 71) (dec_at lsk_78 (k := 45) rfl) rfl ?_
            refine u_iushr (pc := 72) (dec_at lsk_78 (k := 46) rfl) ?_
            refine u_sto (lv' := [iV (iushr (iushr (iushr (iand (ixor l0 (-1)) (l0 - 1)) 16) 4) 2), iV (((1 + 16) + 4) + 2)]) (pc := 73) (dec_at lsk_78 (k := 47) rfl) rfl ?_
            refine u_ld (v := iV (((1 + 16) + 4) + 2)) (pc := 74) (dec_at lsk_78 (k := 48) rfl) rfl ?_
            refine u_ld (v := iV (iushr (iushr (iushr (iand (ixor l0 (-1)) (l0 - 1)) 16) 4) 2)) (pc := 75) (dec_at lsk_78 (k := 49) rfl) rfl ?_
            refine u_ld (v := iV 1) (pc := 76) (dec_at lsk_78 (k := 50) rfl) rfl ?_
            refine u_iushr (pc := 77) (dec_at lsk_78 (k := 51) rfl) ?_
            refine u_iadd (pc := 78) (dec_at lsk_78 (k := 52) rfl) ?_
            exact u_rI (pc := 79) (dec_at lsk_78 (k := 53) rfl) rfl h
          · have h := ifF e8 h
            refine u_ld (v := iV ((1 + 16) + 4)) (pc := 74) (dec_at lsk_78 (k := 48) rfl) rfl ?_
            refine u_ld (v := iV (iushr (iushr (iand (ixor l0 (-1)) (l0 - 1)) 16) 4)) (pc := 75) (dec_at lsk_78 (k := 49) rfl) rfl ?_
            refine u_ld (v := iV 1) (pc := 76) (dec_at lsk_78 (k := 50) rfl) rfl ?_
            refine u_iushr (pc := 77) (dec_at lsk_78 (k := 51) rfl) ?_
            refine u_iadd (pc := 78) (dec_at lsk_78 (k := 52) rfl) ?_
            exact u_rI (pc := 79) (dec_at lsk_78 (k := 53) rfl) rfl h
        · have h := ifF e7 h
          refine u_ld (v := iV (iushr (iand (ixor l0 (-1)) (l0 - 1)) 16)) (pc := 62) (dec_at lsk_78 (k := 40) rfl) rfl ?_
          refine u_ld (v := iV 4) (pc := 63) (dec_at lsk_78 (k := 41) rfl) rfl ?_
          refine u_icF (pc := 64) (tgt := 74) (dec_at lsk_78 (k := 42) rfl) rfl (ci_le (ri_toInt _) (by decide)) (fun e9 => ?_) (fun e9 => ?_)
          · have h := ifT e9 h
            refine u_inc (lv' := [iV (iushr (iand (ixor l0 (-1)) (l0 - 1)) 16), iV ((1 + 16) + 2)]) (pc := 67) (dec_at lsk_78 (k := 43) rfl) rfl (by decide) rfl ?_
            refine u_ld (v := iV (iushr (iand (ixor l0 (-1)) (l0 - 1)) 16)) (pc := 70) (dec_at lsk_78 (k := 44) rfl) rfl ?_
            refine u_ld (v := iV 2) (pc := 71) (dec_at lsk_78 (k := 45) rfl) rfl ?_
            refine u_iushr (pc := 72) (dec_at lsk_78 (k := 46) rfl) ?_
            refine u_sto (lv' := [iV (iushr (iushr (iand (ixor l0 (-1)) (l0 - 1)) 16) 2), iV ((1 + 16) + 2)]) (pc := 73) (dec_at lsk_78 (k := 47) rfl) rfl ?_
            refine u_ld (v := iV ((1 + 16) + 2)) (pc := 74) (dec_at lsk_78 (k := 48) rfl) rfl ?_
            refine u_ld (v := iV (iushr (iushr (iand (ixor l0 (-1)) (l0 - 1)) 16) 2)) (pc := 75) (dec_at lsk_78 (k := 49) rfl) rfl ?_
            refine u_ld (v := iV 1) (pc := 76) (dec_at lsk_78 (k := 50) rfl) rfl ?_
            refine u_iushr (pc := 77) (dec_at lsk_78 (k := 51) rfl) ?_
            refine u_iadd (pc := 78) (dec_at lsk_78 (k := 52) rfl) ?_
            exact u_rI (pc := 79) (dec_at lsk_78 (k := 53) rfl) rfl h
          · have h := ifF e9 h
            refine u_ld (v := iV (1 + 16)) (pc := 74) (dec_at lsk_78 (k := 48) rfl) rfl ?_
            refine u_ld (v := iV (iushr (iand (ixor l0 (-1)) (l0 - 1)) 16)) (pc := 75) (dec_at lsk_78 (k := 49) rfl) rfl ?_
            refine u_ld (v := iV 1) (pc := 76) (dec_at lsk_78 (k := 50) rfl) rfl ?_
            refine u_iushr (pc := 77) (dec_at lsk_78 (k := 51) rfl) ?_
            refine u_iadd (pc := 78) (dec_at lsk_78 (k := 52) rfl) ?_
            exact u_rI (pc := 79) (dec_at lsk_78 (k := 53) rfl) rfl h
    · have h := ifF e2 h
      refine u_ld (v := iV (iand (ixor l0 (-1)) (l0 - 1))) (pc := 34) (dec_at lsk_78 (k := 24) rfl) rfl ?_
      refine u_c (x := 256) (pc := 35) (dec_at lsk_78 (k := 25) rfl) rfl (by decide) ?_
      refine u_icF (pc := 38) (tgt := 49) (dec_at lsk_78 (k := 26) rfl) rfl (ci_le (ri_toInt _) (by decide)) (fun e10 => ?_) (fun e10 => ?_)
      · have h := ifT e10 h
        refine u_inc (lv' := [iV (iand (ixor l0 (-1)) (l0 - 1)), iV (1 + 8)]) (pc := 41) (dec_at lsk_78 (k := 27) rfl) rfl (by decide) rfl ?_
        refine u_ld (v := iV (iand (ixor l0 (-1)) (l0 - 1))) (pc := 44) (dec_at lsk_78 (k := 28) rfl) rfl ?_
        refine u_c (x := 8) (pc := 45) (dec_at lsk_78 (k := 29) rfl) rfl (by decide) ?_
        refine u_iushr (pc := 47) (dec_at lsk_78 (k := 30) rfl) ?_
        refine u_sto (lv' := [iV (iushr (iand (ixor l0 (-1)) (l0 - 1)) 8), iV (1 + 8)]) (pc := 48) (dec_at lsk_78 (k := 31) rfl) rfl ?_
        refine u_ld (v := iV (iushr (iand (ixor l0 (-1)) (l0 - 1)) 8)) (pc := 49) (dec_at lsk_78 (k := 32) rfl) rfl ?_
        refine u_c (x := 16) (pc := 50) (dec_at lsk_78 (k := 33) rfl) rfl (by decide) ?_
        refine u_icF (pc := 52) (tgt := 62) (dec_at lsk_78 (k := 34) rfl) rfl (ci_le (ri_toInt _) (by decide)) (fun e11 => ?_) (fun e11 => ?_)
        · have h := ifT e11 h
          refine u_inc (lv' := [iV (iushr (iand (ixor l0 (-1)) (l0 - 1)) 8), iV ((1 + 8) + 4)]) (pc := 55) (dec_at lsk_78 (k := 35) rfl) rfl (by decide) rfl ?_
          refine u_ld (v := iV (iushr (iand (ixor l0 (-1)) (l0 - 1)) 8)) (pc := 58) (dec_at lsk_78 (k := 36) rfl) rfl ?_
          refine u_ld (v := iV 4) (pc := 59) (dec_at lsk_78 (k := 37) rfl) rfl ?_
          refine u_iushr (pc := 60) (dec_at lsk_78 (k := 38) rfl) ?_
          refine u_sto (lv' := [iV (iushr (iushr (iand (ixor l0 (-1)) (l0 - 1)) 8) 4), iV ((1 + 8) + 4)]) (pc := 61) (dec_at lsk_78 (k := 39) rfl) rfl ?_
          refine u_ld (v := iV (iushr (iushr (iand (ixor l0 (-1)) (l0 - 1)) 8) 4)) (pc := 62) (dec_at lsk_78 (k := 40) rfl) rfl ?_
          refine u_ld (v := iV 4) (pc := 63) (dec_at lsk_78 (k := 41) rfl) rfl ?_
          refine u_icF (pc := 64) (tgt := 74) (dec_at lsk_78 (k := 42) rfl) rfl (ci_le (ri_toInt _) (by decide)) (fun e12 => ?_) (fun e12 => ?_)
          · have h := ifT e12 h
            refine u_inc (lv' := [iV (iushr (iushr (iand (ixor l0 (-1)) (l0 - 1)) 8) 4), iV (((1 + 8) + 4) + 2)]) (pc := 67) (dec_at lsk_78 (k := 43) rfl) rfl (by decide) rfl ?_
            refine u_ld (v := iV (iushr (iushr (iand (ixor l0 (-1)) (l0 - 1)) 8) 4)) (pc := 70) (dec_at lsk_78 (k := 44) rfl) rfl ?_
            refine u_ld (v := iV 2) (pc := 71) (dec_at lsk_78 (k := 45) rfl) rfl ?_
            refine u_iushr (pc := 72) (dec_at lsk_78 (k := 46) rfl) ?_
            refine u_sto (lv' := [iV (iushr (iushr (iushr (iand (ixor l0 (-1)) (l0 - 1)) 8) 4) 2), iV (((1 + 8) + 4) + 2)]) (pc := 73) (dec_at lsk_78 (k := 47) rfl) rfl ?_
            refine u_ld (v := iV (((1 + 8) + 4) + 2)) (pc := 74) (dec_at lsk_78 (k := 48) rfl) rfl ?_
            refine u_ld (v := iV (iushr (iushr (iushr (iand (ixor l0 (-1)) (l0 - 1)) 8) 4) 2)) (pc := 75) (dec_at lsk_78 (k := 49) rfl) rfl ?_
            refine u_ld (v := iV 1) (pc := 76) (dec_at lsk_78 (k := 50) rfl) rfl ?_
            refine u_iushr (pc := 77) (dec_at lsk_78 (k := 51) rfl) ?_
            refine u_iadd (pc := 78) (dec_at lsk_78 (k := 52) rfl) ?_
            exact u_rI (pc := 79) (dec_at lsk_78 (k := 53) rfl) rfl h
          · have h := ifF e12 h
            refine u_ld (v := iV ((1 + 8) + 4)) (pc := 74) (dec_at lsk_78 (k := 48) rfl) rfl ?_
            refine u_ld (v := iV (iushr (iushr (iand (ixor l0 (-1)) (l0 - 1)) 8) 4)) (pc := 75) (dec_at lsk_78 (k := 49) rfl) rfl ?_
            refine u_ld (v := iV 1) (pc := 76) (dec_at lsk_78 (k := 50) rfl) rfl ?_
            refine u_iushr (pc := 77) (dec_at lsk_78 (k := 51) rfl) ?_
            refine u_iadd (pc := 78) (dec_at lsk_78 (k := 52) rfl) ?_
            exact u_rI (pc := 79) (dec_at lsk_78 (k := 53) rfl) rfl h
        · have h := ifF e11 h
          refine u_ld (v := iV (iushr (iand (ixor l0 (-1)) (l0 - 1)) 8)) (pc := 62) (dec_at lsk_78 (k := 40) rfl) rfl ?_
          refine u_ld (v := iV 4) (pc := 63) (dec_at lsk_78 (k := 41) rfl) rfl ?_
          refine u_icF (pc := 64) (tgt := 74) (dec_at lsk_78 (k := 42) rfl) rfl (ci_le (ri_toInt _) (by decide)) (fun e13 => ?_) (fun e13 => ?_)
          · have h := ifT e13 h
            refine u_inc (lv' := [iV (iushr (iand (ixor l0 (-1)) (l0 - 1)) 8), iV ((1 + 8) + 2)]) (pc := 67) (dec_at lsk_78 (k := 43) rfl) rfl (by decide) rfl ?_
            refine u_ld (v := iV (iushr (iand (ixor l0 (-1)) (l0 - 1)) 8)) (pc := 70) (dec_at lsk_78 (k := 44) rfl) rfl ?_
            refine u_ld (v := iV 2) (pc := 71) (dec_at lsk_78 (k := 45) rfl) rfl ?_
            refine u_iushr (pc := 72) (dec_at lsk_78 (k := 46) rfl) ?_
            refine u_sto (lv' := [iV (iushr (iushr (iand (ixor l0 (-1)) (l0 - 1)) 8) 2), iV ((1 + 8) + 2)]) (pc := 73) (dec_at lsk_78 (k := 47) rfl) rfl ?_
            refine u_ld (v := iV ((1 + 8) + 2)) (pc := 74) (dec_at lsk_78 (k := 48) rfl) rfl ?_
            refine u_ld (v := iV (iushr (iushr (iand (ixor l0 (-1)) (l0 - 1)) 8) 2)) (pc := 75) (dec_at lsk_78 (k := 49) rfl) rfl ?_
            refine u_ld (v := iV 1) (pc := 76) (dec_at lsk_78 (k := 50) rfl) rfl ?_
            refine u_iushr (pc := 77) (dec_at lsk_78 (k := 51) rfl) ?_
            refine u_iadd (pc := 78) (dec_at lsk_78 (k := 52) rfl) ?_
            exact u_rI (pc := 79) (dec_at lsk_78 (k := 53) rfl) rfl h
          · have h := ifF e13 h
            refine u_ld (v := iV (1 + 8)) (pc := 74) (dec_at lsk_78 (k := 48) rfl) rfl ?_
            refine u_ld (v := iV (iushr (iand (ixor l0 (-1)) (l0 - 1)) 8)) (pc := 75) (dec_at lsk_78 (k := 49) rfl) rfl ?_
            refine u_ld (v := iV 1) (pc := 76) (dec_at lsk_78 (k := 50) rfl) rfl ?_
            refine u_iushr (pc := 77) (dec_at lsk_78 (k := 51) rfl) ?_
            refine u_iadd (pc := 78) (dec_at lsk_78 (k := 52) rfl) ?_
            exact u_rI (pc := 79) (dec_at lsk_78 (k := 53) rfl) rfl h
      · have h := ifF e10 h
        refine u_ld (v := iV (iand (ixor l0 (-1)) (l0 - 1))) (pc := 49) (dec_at lsk_78 (k := 32) rfl) rfl ?_
        refine u_c (x := 16) (pc := 50) (dec_at lsk_78 (k := 33) rfl) rfl (by decide) ?_
        refine u_icF (pc := 52) (tgt := 62) (dec_at lsk_78 (k := 34) rfl) rfl (ci_le (ri_toInt _) (by decide)) (fun e14 => ?_) (fun e14 => ?_)
        · have h := ifT e14 h
          refine u_inc (lv' := [iV (iand (ixor l0 (-1)) (l0 - 1)), iV (1 + 4)]) (pc := 55) (dec_at lsk_78 (k := 35) rfl) rfl (by decide) rfl ?_
          refine u_ld (v := iV (iand (ixor l0 (-1)) (l0 - 1))) (pc := 58) (dec_at lsk_78 (k := 36) rfl) rfl ?_
          refine u_ld (v := iV 4) (pc := 59) (dec_at lsk_78 (k := 37) rfl) rfl ?_
          refine u_iushr (pc := 60) (dec_at lsk_78 (k := 38) rfl) ?_
          refine u_sto (lv' := [iV (iushr (iand (ixor l0 (-1)) (l0 - 1)) 4), iV (1 + 4)]) (pc := 61) (dec_at lsk_78 (k := 39) rfl) rfl ?_
          refine u_ld (v := iV (iushr (iand (ixor l0 (-1)) (l0 - 1)) 4)) (pc := 62) (dec_at lsk_78 (k := 40) rfl) rfl ?_
          refine u_ld (v := iV 4) (pc := 63) (dec_at lsk_78 (k := 41) rfl) rfl ?_
          refine u_icF (pc := 64) (tgt := 74) (dec_at lsk_78 (k := 42) rfl) rfl (ci_le (ri_toInt _) (by decide)) (fun e15 => ?_) (fun e15 => ?_)
          · have h := ifT e15 h
            refine u_inc (lv' := [iV (iushr (iand (ixor l0 (-1)) (l0 - 1)) 4), iV ((1 + 4) + 2)]) (pc := 67) (dec_at lsk_78 (k := 43) rfl) rfl (by decide) rfl ?_
            refine u_ld (v := iV (iushr (iand (ixor l0 (-1)) (l0 - 1)) 4)) (pc := 70) (dec_at lsk_78 (k := 44) rfl) rfl ?_
            refine u_ld (v := iV 2) (pc := 71) (dec_at lsk_78 (k := 45) rfl) rfl ?_
            refine u_iushr (pc := 72) (dec_at lsk_78 (k := 46) rfl) ?_
            refine u_sto (lv' := [iV (iushr (iushr (iand (ixor l0 (-1)) (l0 - 1)) 4) 2), iV ((1 + 4) + 2)]) (pc := 73) (dec_at lsk_78 (k := 47) rfl) rfl ?_
            refine u_ld (v := iV ((1 + 4) + 2)) (pc := 74) (dec_at lsk_78 (k := 48) rfl) rfl ?_
            refine u_ld (v := iV (iushr (iushr (iand (ixor l0 (-1)) (l0 - 1)) 4) 2)) (pc := 75) (dec_at lsk_78 (k := 49) rfl) rfl ?_
            refine u_ld (v := iV 1) (pc := 76) (dec_at lsk_78 (k := 50) rfl) rfl ?_
            refine u_iushr (pc := 77) (dec_at lsk_78 (k := 51) rfl) ?_
            refine u_iadd (pc := 78) (dec_at lsk_78 (k := 52) rfl) ?_
            exact u_rI (pc := 79) (dec_at lsk_78 (k := 53) rfl) rfl h
          · have h := ifF e15 h
            refine u_ld (v := iV (1 + 4)) (pc := 74) (dec_at lsk_78 (k := 48) rfl) rfl ?_
            refine u_ld (v := iV (iushr (iand (ixor l0 (-1)) (l0 - 1)) 4)) (pc := 75) (dec_at lsk_78 (k := 49) rfl) rfl ?_
            refine u_ld (v := iV 1) (pc := 76) (dec_at lsk_78 (k := 50) rfl) rfl ?_
            refine u_iushr (pc := 77) (dec_at lsk_78 (k := 51) rfl) ?_
            refine u_iadd (pc := 78) (dec_at lsk_78 (k := 52) rfl) ?_
            exact u_rI (pc := 79) (dec_at lsk_78 (k := 53) rfl) rfl h
        · have h := ifF e14 h
          refine u_ld (v := iV (iand (ixor l0 (-1)) (l0 - 1))) (pc := 62) (dec_at lsk_78 (k := 40) rfl) rfl ?_
          refine u_ld (v := iV 4) (pc := 63) (dec_at lsk_78 (k := 41) rfl) rfl ?_
          refine u_icF (pc := 64) (tgt := 74) (dec_at lsk_78 (k := 42) rfl) rfl (ci_le (ri_toInt _) (by decide)) (fun e16 => ?_) (fun e16 => ?_)
          · have h := ifT e16 h
            refine u_inc (lv' := [iV (iand (ixor l0 (-1)) (l0 - 1)), iV (1 + 2)]) (pc := 67) (dec_at lsk_78 (k := 43) rfl) rfl (by decide) rfl ?_
            refine u_ld (v := iV (iand (ixor l0 (-1)) (l0 - 1))) (pc := 70) (dec_at lsk_78 (k := 44) rfl) rfl ?_
            refine u_ld (v := iV 2) (pc := 71) (dec_at lsk_78 (k := 45) rfl) rfl ?_
            refine u_iushr (pc := 72) (dec_at lsk_78 (k := 46) rfl) ?_
            refine u_sto (lv' := [iV (iushr (iand (ixor l0 (-1)) (l0 - 1)) 2), iV (1 + 2)]) (pc := 73) (dec_at lsk_78 (k := 47) rfl) rfl ?_
            refine u_ld (v := iV (1 + 2)) (pc := 74) (dec_at lsk_78 (k := 48) rfl) rfl ?_
            refine u_ld (v := iV (iushr (iand (ixor l0 (-1)) (l0 - 1)) 2)) (pc := 75) (dec_at lsk_78 (k := 49) rfl) rfl ?_
            refine u_ld (v := iV 1) (pc := 76) (dec_at lsk_78 (k := 50) rfl) rfl ?_
            refine u_iushr (pc := 77) (dec_at lsk_78 (k := 51) rfl) ?_
            refine u_iadd (pc := 78) (dec_at lsk_78 (k := 52) rfl) ?_
            exact u_rI (pc := 79) (dec_at lsk_78 (k := 53) rfl) rfl h
          · have h := ifF e16 h
            refine u_ld (v := iV 1) (pc := 74) (dec_at lsk_78 (k := 48) rfl) rfl ?_
            refine u_ld (v := iV (iand (ixor l0 (-1)) (l0 - 1))) (pc := 75) (dec_at lsk_78 (k := 49) rfl) rfl ?_
            refine u_ld (v := iV 1) (pc := 76) (dec_at lsk_78 (k := 50) rfl) rfl ?_
            refine u_iushr (pc := 77) (dec_at lsk_78 (k := 51) rfl) ?_
            refine u_iadd (pc := 78) (dec_at lsk_78 (k := 52) rfl) ?_
            exact u_rI (pc := 79) (dec_at lsk_78 (k := 53) rfl) rfl h
  · have h := ifF e1 h
    refine u_ld (v := iV (iand (ixor l0 (-1)) (l0 - 1))) (pc := 12) (dec_at lsk_78 (k := 10) rfl) rfl ?_
    refine u_c (x := 32) (pc := 13) (dec_at lsk_78 (k := 11) rfl) rfl (by decide) ?_
    refine u_iand (pc := 15) (dec_at lsk_78 (k := 12) rfl) ?_
    exact u_rI (pc := 16) (dec_at lsk_78 (k := 13) rfl) rfl h
/-- method 30 -/
def K_30 (d pc : Nat) (lv : ev_L) (st : List Value) (u : uS) (Q : uS → Prop) : Prop := okU d 14 4 false none prog_19_method_103_code (qV Q) pc lv st u
theorem e_30 {d : Nat} {Q : uS → Prop} {u : uS} {l0 : Nat} {l1 : Int} {nl0 : Nat} (hAl0 : isA l0 0 nl0) (h : K_30 d 5 [.ref l0, iV l1, iV 0, iV (nl0 : Int)] [] u Q) : cV (d + 1) 30 [.ref l0, iV l1] u Q := by
  refine u_of me_30 (Nat.le_of_ble_eq_true rfl) ?_
  refine u_ld (v := iV 0) (pc := 0) (dec_at lsk_30 (k := 0) rfl) rfl ?_
  refine u_sto (lv' := [.ref l0, iV l1, iV 0, .retAddr 0]) (pc := 1) (dec_at lsk_30 (k := 1) rfl) rfl ?_
  refine u_ld (v := .ref l0) (pc := 2) (dec_at lsk_30 (k := 2) rfl) rfl ?_
  refine u_alen (pc := 3) (dec_at lsk_30 (k := 3) rfl) hAl0 (by decide) ?_
  refine u_sto (lv' := [.ref l0, iV l1, iV 0, iV (nl0 : Int)]) (pc := 4) (dec_at lsk_30 (k := 4) rfl) rfl ?_
  exact h
theorem k_30_5 {d : Nat} {Q : uS → Prop} {u : uS} {l0 : Nat} {l1 l2 l3 : Int} {nl0 : Nat} (hAl0 : isA l0 0 nl0) (h : (rI l2) ∧ ((rI l3) ∧ (if l2 < l3 then ((0 ≤ l2) ∧ ((l2 < nl0) ∧ (∀ u6 : uS, u6 = wr u l0 l2 l1 → (K_30 d 5 [.ref l0, iV l1, iV (l2 + 1), iV l3] [] u6 Q)))) else (Q u)))) : K_30 d 5 [.ref l0, iV l1, iV l2, iV l3] [] u Q := by
  unfold K_30
  refine u_ld (v := iV l2) (pc := 5) (dec_at lsk_30 (k := 5) rfl) rfl ?_
  refine u_ld (v := iV l3) (pc := 6) (dec_at lsk_30 (k := 6) rfl) rfl ?_
  have g1 := h.1
  have h := h.2
  have g2 := h.1
  have h := h.2
  refine u_icF (pc := 7) (tgt := 20) (dec_at lsk_30 (k := 7) rfl) rfl (ci_ge g1 g2) (fun e3 => ?_) (fun e3 => ?_)
  · have h := ifT e3 h
    refine u_ld (v := .ref l0) (pc := 10) (dec_at lsk_30 (k := 8) rfl) rfl ?_
    refine u_ld (v := iV l2) (pc := 11) (dec_at lsk_30 (k := 9) rfl) rfl ?_
    refine u_ld (v := iV l1) (pc := 12) (dec_at lsk_30 (k := 10) rfl) rfl ?_
    have g4 := h.1
    have h := h.2
    have g5 := h.1
    have h := h.2
    refine u_iast (pc := 13) (dec_at lsk_30 (k := 11) rfl) hAl0 g4 g5 (fun u6 e7 => ?_)
    have h := h u6 e7
    refine u_inc (lv' := [.ref l0, iV l1, iV (l2 + 1), iV l3]) (pc := 14) (dec_at lsk_30 (k := 12) rfl) rfl (by decide) rfl ?_
    refine u_goto (pc := 17) (tgt := 5) (dec_at lsk_30 (k := 13) rfl) rfl ?_
    exact h
  · have h := ifF e3 h
    exact u_rV (pc := 20) (dec_at lsk_30 (k := 14) rfl) rfl h
/-- method 49 -/
def K_49 (d pc : Nat) (lv : ev_L) (st : List Value) (u : uS) (Q : uS → Prop) : Prop := okU d 14 5 false none prog_19_method_101_code (qV Q) pc lv st u
theorem e_49 {d : Nat} {Q : uS → Prop} {u : uS} {l0 : Nat} {l1 : Int} {nl0 : Nat} (hAl0 : isA l0 1 nl0) (h : K_49 d 6 [.ref l0, lV l1, .retAddr 0, iV 0, iV (nl0 : Int)] [] u Q) : cV (d + 1) 49 [.ref l0, lV l1] u Q := by
  refine u_of me_49 (Nat.le_of_ble_eq_true rfl) ?_
  refine u_ld (v := iV 0) (pc := 0) (dec_at lsk_49 (k := 0) rfl) rfl ?_
  refine u_sto (lv' := [.ref l0, lV l1, .retAddr 0, iV 0, .retAddr 0]) (pc := 1) (dec_at lsk_49 (k := 1) rfl) rfl ?_
  refine u_ld (v := .ref l0) (pc := 2) (dec_at lsk_49 (k := 2) rfl) rfl ?_
  refine u_alen (pc := 3) (dec_at lsk_49 (k := 3) rfl) hAl0 (by decide) ?_
  refine u_sto (lv' := [.ref l0, lV l1, .retAddr 0, iV 0, iV (nl0 : Int)]) (pc := 4) (dec_at lsk_49 (k := 4) rfl) rfl ?_
  exact h
theorem k_49_6 {d : Nat} {Q : uS → Prop} {u : uS} {l0 : Nat} {l1 l3 l4 : Int} {nl0 : Nat} (hAl0 : isA l0 1 nl0) (h : (rI l3) ∧ ((rI l4) ∧ (if l3 < l4 then ((0 ≤ l3) ∧ ((l3 < nl0) ∧ (∀ u6 : uS, u6 = wr u l0 l3 l1 → (K_49 d 6 [.ref l0, lV l1, .retAddr 0, iV (l3 + 1), iV l4] [] u6 Q)))) else (Q u)))) : K_49 d 6 [.ref l0, lV l1, .retAddr 0, iV l3, iV l4] [] u Q := by
  unfold K_49
  refine u_ld (v := iV l3) (pc := 6) (dec_at lsk_49 (k := 5) rfl) rfl ?_
  refine u_ld (v := iV l4) (pc := 7) (dec_at lsk_49 (k := 6) rfl) rfl ?_
  have g1 := h.1
  have h := h.2
  have g2 := h.1
  have h := h.2
  refine u_icF (pc := 9) (tgt := 22) (dec_at lsk_49 (k := 7) rfl) rfl (ci_ge g1 g2) (fun e3 => ?_) (fun e3 => ?_)
  · have h := ifT e3 h
    refine u_ld (v := .ref l0) (pc := 12) (dec_at lsk_49 (k := 8) rfl) rfl ?_
    refine u_ld (v := iV l3) (pc := 13) (dec_at lsk_49 (k := 9) rfl) rfl ?_
    refine u_ld (v := lV l1) (pc := 14) (dec_at lsk_49 (k := 10) rfl) rfl ?_
    have g4 := h.1
    have h := h.2
    have g5 := h.1
    have h := h.2
    refine u_last (pc := 15) (dec_at lsk_49 (k := 11) rfl) hAl0 g4 g5 (fun u6 e7 => ?_)
    have h := h u6 e7
    refine u_inc (lv' := [.ref l0, lV l1, .retAddr 0, iV (l3 + 1), iV l4]) (pc := 16) (dec_at lsk_49 (k := 12) rfl) rfl (by decide) rfl ?_
    refine u_goto (pc := 19) (tgt := 6) (dec_at lsk_49 (k := 13) rfl) rfl ?_
    exact h
  · have h := ifF e3 h
    exact u_rV (pc := 22) (dec_at lsk_49 (k := 14) rfl) rfl h
/-- method 83 -/
def K_83 (d pc : Nat) (lv : ev_L) (st : List Value) (u : uS) (Q : uS → Prop) : Prop := okU d 14 5 false none prog_19_method_104_code (qV Q) pc lv st u
theorem e_83 {d : Nat} {Q : uS → Prop} {u : uS} {l0 : Nat} {l1 l2 l3 : Int} {nl0 : Nat} (hAl0 : isA l0 0 nl0) (h : (rI l1) ∧ ((rI l2) ∧ (if l2 < l1 then (False) else (if l1 < 0 then (False) else ((rI (nl0 : Int)) ∧ (if (nl0 : Int) < l2 then (False) else (K_83 (d + 1) 10 [.ref l0, .retAddr 0, iV l2, iV l3, iV l1] [] u Q))))))) : cV (d + 2) 83 [.ref l0, iV l1, iV l2, iV l3] u Q := by
  refine u_of me_83 (Nat.le_of_ble_eq_true rfl) ?_
  refine u_ld (v := .ref l0) (pc := 0) (dec_at lsk_83 (k := 0) rfl) rfl ?_
  refine u_alen (pc := 1) (dec_at lsk_83 (k := 1) rfl) hAl0 (by decide) ?_
  refine u_ld (v := iV l1) (pc := 2) (dec_at lsk_83 (k := 2) rfl) rfl ?_
  refine u_ld (v := iV l2) (pc := 3) (dec_at lsk_83 (k := 3) rfl) rfl ?_
  refine u_csV (As := [iV (nl0 : Int), iV l1, iV l2]) (st2 := []) (pc := 4) (dec_at lsk_83 (k := 4) rfl) m_14_13 (Or.inl rfl) rfl (Nat.le_of_ble_eq_true rfl) ?_ (fun _ h_ => h_)
  refine u_of me_84 (Nat.le_of_ble_eq_true rfl) ?_
  refine u_ld (v := iV l1) (pc := 0) (dec_at lsk_84 (k := 0) rfl) rfl ?_
  refine u_ld (v := iV l2) (pc := 1) (dec_at lsk_84 (k := 1) rfl) rfl ?_
  have g1 := h.1
  have h := h.2
  have g2 := h.1
  have h := h.2
  refine u_icF (pc := 2) (tgt := 46) (dec_at lsk_84 (k := 2) rfl) rfl (ci_le g1 g2) (fun e3 => ?_) (fun e3 => ?_)
  · have h := ifT e3 h
    exact h.elim
  · have h := ifF e3 h
    refine u_ld (v := iV l1) (pc := 46) (dec_at lsk_84 (k := 21) rfl) rfl ?_
    refine u_ifF (pc := 47) (tgt := 59) (dec_at lsk_84 (k := 22) rfl) rfl (c0_ge g1) (fun e4 => ?_) (fun e4 => ?_)
    · have h := ifT e4 h
      exact h.elim
    · have h := ifF e4 h
      refine u_ld (v := iV l2) (pc := 59) (dec_at lsk_84 (k := 28) rfl) rfl ?_
      refine u_ld (v := iV (nl0 : Int)) (pc := 60) (dec_at lsk_84 (k := 29) rfl) rfl ?_
      have g5 := h.1
      have h := h.2
      refine u_icF (pc := 61) (tgt := 73) (dec_at lsk_84 (k := 30) rfl) rfl (ci_le g2 g5) (fun e6 => ?_) (fun e6 => ?_)
      · have h := ifT e6 h
        exact h.elim
      · have h := ifF e6 h
        refine u_rV (pc := 73) (dec_at lsk_84 (k := 36) rfl) rfl ?_
        refine u_ld (v := iV l1) (pc := 7) (dec_at lsk_83 (k := 5) rfl) rfl ?_
        refine u_sto (lv' := [.ref l0, iV l1, iV l2, iV l3, iV l1]) (pc := 8) (dec_at lsk_83 (k := 6) rfl) rfl ?_
        exact u_weak (sbK (sbD (sbK (sbK (sbK sb0))))) h
theorem k_83_10 {d : Nat} {Q : uS → Prop} {u : uS} {l0 : Nat} {l2 l3 l4 : Int} {nl0 : Nat} (hAl0 : isA l0 0 nl0) (h : (rI l4) ∧ ((rI l2) ∧ (if l4 < l2 then ((0 ≤ l4) ∧ ((l4 < nl0) ∧ (∀ u6 : uS, u6 = wr u l0 l4 l3 → (K_83 (d + 1) 10 [.ref l0, .retAddr 0, iV l2, iV l3, iV (l4 + 1)] [] u6 Q)))) else (Q u)))) : K_83 (d + 1) 10 [.ref l0, .retAddr 0, iV l2, iV l3, iV l4] [] u Q := by
  unfold K_83
  refine u_ld (v := iV l4) (pc := 10) (dec_at lsk_83 (k := 7) rfl) rfl ?_
  refine u_ld (v := iV l2) (pc := 12) (dec_at lsk_83 (k := 8) rfl) rfl ?_
  have g1 := h.1
  have h := h.2
  have g2 := h.1
  have h := h.2
  refine u_icF (pc := 13) (tgt := 27) (dec_at lsk_83 (k := 9) rfl) rfl (ci_ge g1 g2) (fun e3 => ?_) (fun e3 => ?_)
  · have h := ifT e3 h
    refine u_ld (v := .ref l0) (pc := 16) (dec_at lsk_83 (k := 10) rfl) rfl ?_
    refine u_ld (v := iV l4) (pc := 17) (dec_at lsk_83 (k := 11) rfl) rfl ?_
    refine u_ld (v := iV l3) (pc := 19) (dec_at lsk_83 (k := 12) rfl) rfl ?_
    have g4 := h.1
    have h := h.2
    have g5 := h.1
    have h := h.2
    refine u_iast (pc := 20) (dec_at lsk_83 (k := 13) rfl) hAl0 g4 g5 (fun u6 e7 => ?_)
    have h := h u6 e7
    refine u_inc (lv' := [.ref l0, .retAddr 0, iV l2, iV l3, iV (l4 + 1)]) (pc := 21) (dec_at lsk_83 (k := 14) rfl) rfl (by decide) rfl ?_
    refine u_goto (pc := 24) (tgt := 10) (dec_at lsk_83 (k := 15) rfl) rfl ?_
    exact h
  · have h := ifF e3 h
    exact u_rV (pc := 27) (dec_at lsk_83 (k := 16) rfl) rfl h
/-- method 145 -/
def K_145 (d pc : Nat) (lv : ev_L) (st : List Value) (u : uS) (Q : uS → Prop) : Prop := okU d 14 6 false none prog_19_method_102_code (qV Q) pc lv st u
theorem e_145 {d : Nat} {Q : uS → Prop} {u : uS} {l0 : Nat} {l1 l2 l3 : Int} {nl0 : Nat} (hAl0 : isA l0 1 nl0) (h : (rI l1) ∧ ((rI l2) ∧ (if l2 < l1 then (False) else (if l1 < 0 then (False) else ((rI (nl0 : Int)) ∧ (if (nl0 : Int) < l2 then (False) else (K_145 (d + 1) 10 [.ref l0, .retAddr 0, iV l2, lV l3, .retAddr 0, iV l1] [] u Q))))))) : cV (d + 2) 145 [.ref l0, iV l1, iV l2, lV l3] u Q := by
  refine u_of me_145 (Nat.le_of_ble_eq_true rfl) ?_
  refine u_ld (v := .ref l0) (pc := 0) (dec_at lsk_145 (k := 0) rfl) rfl ?_
  refine u_alen (pc := 1) (dec_at lsk_145 (k := 1) rfl) hAl0 (by decide) ?_
  refine u_ld (v := iV l1) (pc := 2) (dec_at lsk_145 (k := 2) rfl) rfl ?_
  refine u_ld (v := iV l2) (pc := 3) (dec_at lsk_145 (k := 3) rfl) rfl ?_
  refine u_csV (As := [iV (nl0 : Int), iV l1, iV l2]) (st2 := []) (pc := 4) (dec_at lsk_145 (k := 4) rfl) m_14_13 (Or.inl rfl) rfl (Nat.le_of_ble_eq_true rfl) ?_ (fun _ h_ => h_)
  refine u_of me_84 (Nat.le_of_ble_eq_true rfl) ?_
  refine u_ld (v := iV l1) (pc := 0) (dec_at lsk_84 (k := 0) rfl) rfl ?_
  refine u_ld (v := iV l2) (pc := 1) (dec_at lsk_84 (k := 1) rfl) rfl ?_
  have g1 := h.1
  have h := h.2
  have g2 := h.1
  have h := h.2
  refine u_icF (pc := 2) (tgt := 46) (dec_at lsk_84 (k := 2) rfl) rfl (ci_le g1 g2) (fun e3 => ?_) (fun e3 => ?_)
  · have h := ifT e3 h
    exact h.elim
  · have h := ifF e3 h
    refine u_ld (v := iV l1) (pc := 46) (dec_at lsk_84 (k := 21) rfl) rfl ?_
    refine u_ifF (pc := 47) (tgt := 59) (dec_at lsk_84 (k := 22) rfl) rfl (c0_ge g1) (fun e4 => ?_) (fun e4 => ?_)
    · have h := ifT e4 h
      exact h.elim
    · have h := ifF e4 h
      refine u_ld (v := iV l2) (pc := 59) (dec_at lsk_84 (k := 28) rfl) rfl ?_
      refine u_ld (v := iV (nl0 : Int)) (pc := 60) (dec_at lsk_84 (k := 29) rfl) rfl ?_
      have g5 := h.1
      have h := h.2
      refine u_icF (pc := 61) (tgt := 73) (dec_at lsk_84 (k := 30) rfl) rfl (ci_le g2 g5) (fun e6 => ?_) (fun e6 => ?_)
      · have h := ifT e6 h
        exact h.elim
      · have h := ifF e6 h
        refine u_rV (pc := 73) (dec_at lsk_84 (k := 36) rfl) rfl ?_
        refine u_ld (v := iV l1) (pc := 7) (dec_at lsk_145 (k := 5) rfl) rfl ?_
        refine u_sto (lv' := [.ref l0, iV l1, iV l2, lV l3, .retAddr 0, iV l1]) (pc := 8) (dec_at lsk_145 (k := 6) rfl) rfl ?_
        exact u_weak (sbK (sbD (sbK (sbK (sbK (sbK sb0)))))) h
theorem k_145_10 {d : Nat} {Q : uS → Prop} {u : uS} {l0 : Nat} {l2 l3 l5 : Int} {nl0 : Nat} (hAl0 : isA l0 1 nl0) (h : (rI l5) ∧ ((rI l2) ∧ (if l5 < l2 then ((0 ≤ l5) ∧ ((l5 < nl0) ∧ (∀ u6 : uS, u6 = wr u l0 l5 l3 → (K_145 (d + 1) 10 [.ref l0, .retAddr 0, iV l2, lV l3, .retAddr 0, iV (l5 + 1)] [] u6 Q)))) else (Q u)))) : K_145 (d + 1) 10 [.ref l0, .retAddr 0, iV l2, lV l3, .retAddr 0, iV l5] [] u Q := by
  unfold K_145
  refine u_ld (v := iV l5) (pc := 10) (dec_at lsk_145 (k := 7) rfl) rfl ?_
  refine u_ld (v := iV l2) (pc := 12) (dec_at lsk_145 (k := 8) rfl) rfl ?_
  have g1 := h.1
  have h := h.2
  have g2 := h.1
  have h := h.2
  refine u_icF (pc := 13) (tgt := 27) (dec_at lsk_145 (k := 9) rfl) rfl (ci_ge g1 g2) (fun e3 => ?_) (fun e3 => ?_)
  · have h := ifT e3 h
    refine u_ld (v := .ref l0) (pc := 16) (dec_at lsk_145 (k := 10) rfl) rfl ?_
    refine u_ld (v := iV l5) (pc := 17) (dec_at lsk_145 (k := 11) rfl) rfl ?_
    refine u_ld (v := lV l3) (pc := 19) (dec_at lsk_145 (k := 12) rfl) rfl ?_
    have g4 := h.1
    have h := h.2
    have g5 := h.1
    have h := h.2
    refine u_last (pc := 20) (dec_at lsk_145 (k := 13) rfl) hAl0 g4 g5 (fun u6 e7 => ?_)
    have h := h u6 e7
    refine u_inc (lv' := [.ref l0, .retAddr 0, iV l2, lV l3, .retAddr 0, iV (l5 + 1)]) (pc := 21) (dec_at lsk_145 (k := 14) rfl) rfl (by decide) rfl ?_
    refine u_goto (pc := 24) (tgt := 10) (dec_at lsk_145 (k := 15) rfl) rfl ?_
    exact h
  · have h := ifF e3 h
    exact u_rV (pc := 27) (dec_at lsk_145 (k := 16) rfl) rfl h
