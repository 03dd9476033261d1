/-! Conditions (wip/tools/gen_k.py) -/
/-- method 9 -/
def K_9 (d pc : Nat) (lv : ev_L) (st : List Value) (u : uS) (Q : uS → Prop) : Prop := okU d 5 4 false none prog_5_method_12_code (qV Q) pc lv st u
theorem e_9 {d : Nat} {Q : uS → Prop} {u : uS} {a : Nat} {l1 l2 : Int} (hOa : isO a 5) (h : K_9 (d + 1) 2 [.ref a, iV l1, iV l2, iV 0] [] u Q) : cV (d + 2) 9 [.ref a, iV l1, iV l2] u Q := by
  refine u_of me_9 (Nat.le_of_ble_eq_true rfl) ?_
  refine u_ld (v := iV 0) (pc := 0) (dec_at lsk_9 (k := 0) rfl) rfl ?_
  refine u_sto (lv' := [.ref a, iV l1, iV l2, iV 0]) (pc := 1) (dec_at lsk_9 (k := 1) rfl) rfl ?_
  exact h
theorem k_9_2 {d : Nat} {Q : uS → Prop} {u : uS} {a : Nat} {l1 l2 l3 : Int} (hOa : isO a 5) (h : (rI l3) ∧ (if l3 < 10 then ((0 ≤ (l1 * 10) + l3) ∧ (((l1 * 10) + l3 < 400) ∧ (∀ u5 : uS, u5 = wr u (a + 1) ((l1 * 10) + l3) l2 → (K_9 (d + 1) 2 [.ref a, iV l1, iV l2, iV (l3 + 1)] [] u5 Q)))) else (Q u))) : K_9 (d + 1) 2 [.ref a, iV l1, iV l2, iV l3] [] u Q := by
  unfold K_9
  refine u_ld (v := iV l3) (pc := 2) (dec_at lsk_9 (k := 2) rfl) rfl ?_
  refine u_c (x := 10) (pc := 3) (dec_at lsk_9 (k := 3) rfl) rfl (by decide) ?_
  have g1 := h.1
  have h := h.2
  refine u_icF (pc := 5) (tgt := 21) (dec_at lsk_9 (k := 4) rfl) rfl (ci_ge g1 (by decide)) (fun e2 => ?_) (fun e2 => ?_)
  · have h := ifT e2 h
    refine u_ld (v := .ref a) (pc := 8) (dec_at lsk_9 (k := 5) rfl) rfl ?_
    refine u_ld (v := iV l1) (pc := 9) (dec_at lsk_9 (k := 6) rfl) rfl ?_
    refine u_ld (v := iV l3) (pc := 10) (dec_at lsk_9 (k := 7) rfl) rfl ?_
    refine u_ld (v := iV l2) (pc := 11) (dec_at lsk_9 (k := 8) rfl) rfl ?_
    refine u_cvV (As := [iV l1, iV l3, iV l2]) (rb := a) (st2 := []) (pc := 12) (dec_at lsk_9 (k := 9) rfl) m_5_35 (Or.inl rfl) rfl (Nat.le_of_ble_eq_true rfl) hOa me_10 rfl ?_ (fun _ h_ => h_)
    refine u_of me_10 (Nat.le_of_ble_eq_true rfl) ?_
    refine u_ld (v := .ref a) (pc := 0) (dec_at lsk_10 (k := 0) rfl) rfl ?_
    refine u_gS (o := 1) (p := a + 1) (pc := 1) (dec_at lsk_10 (k := 1) rfl) f_5_15 hOa rfl rfl ?_
    refine u_ld (v := iV l1) (pc := 4) (dec_at lsk_10 (k := 2) rfl) rfl ?_
    refine u_c (x := 10) (pc := 5) (dec_at lsk_10 (k := 3) rfl) rfl (by decide) ?_
    refine u_imul (pc := 7) (dec_at lsk_10 (k := 4) rfl) ?_
    refine u_ld (v := iV l3) (pc := 8) (dec_at lsk_10 (k := 5) rfl) rfl ?_
    refine u_iadd (pc := 9) (dec_at lsk_10 (k := 6) rfl) ?_
    refine u_ld (v := iV l2) (pc := 10) (dec_at lsk_10 (k := 7) rfl) rfl ?_
    have g3 := h.1
    have h := h.2
    have g4 := h.1
    have h := h.2
    refine u_iast (pc := 11) (dec_at lsk_10 (k := 8) rfl) (sa_5_2 hOa) g3 g4 (fun u5 e6 => ?_)
    have h := h u5 e6
    refine u_rV (pc := 12) (dec_at lsk_10 (k := 9) rfl) rfl ?_
    refine u_inc (lv' := [.ref a, iV l1, iV l2, iV (l3 + 1)]) (pc := 15) (dec_at lsk_9 (k := 10) rfl) rfl (by decide) rfl ?_
    refine u_goto (pc := 18) (tgt := 2) (dec_at lsk_9 (k := 11) rfl) rfl ?_
    exact h
  · have h := ifF e2 h
    exact u_rV (pc := 21) (dec_at lsk_9 (k := 12) rfl) rfl h
