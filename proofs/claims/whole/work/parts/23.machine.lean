/-! Machine -/
/-- Machine.setStep -/
theorem c_10 {w : ev_W} {a p s c : Nat} {x : Int32} {x0 x1 : Value} {f : Nat → Int32} (hw : w[a]? = some (.inr (5, [x0, x1, .ref p]))) (hp : w[p]? = some (.inl (0, 400, .inl f))) (hs : s * 10 + c < 400) : okm 1 10 [.ref a, .int (nI s), .int (nI c), .int x] w (fun v w' => v = none ∧ w'[p]? = some (.inl (0, 400, .inl (upd f (s * 10 + c) x))) ∧ (∀ j, j ≠ p → w'[j]? = w[j]?) ∧ w'.length = w.length) := by
  refine okm_of me_10 (Nat.le_of_ble_eq_true rfl) ?_
  refine ok_p (lv' := [.ref a, .int (nI s), .int (nI c), .int x]) (st' := [.ref a]) (dec_at lsk_10 (k := 0) rfl) rfl ?_
  refine ok_get (dec_at lsk_10 (k := 1) rfl) f_5_15 hw rfl ?_
  refine ok_p (lv' := [.ref a, .int (nI s), .int (nI c), .int x]) (st' := [.int (nI s), .ref p]) (dec_at lsk_10 (k := 2) rfl) rfl ?_
  refine ok_cn (a := 10) (dec_at lsk_10 (k := 3) rfl) rfl (by decide) ?_
  refine ok_muln (dec_at lsk_10 (k := 4) rfl) ?_
  refine ok_p (lv' := [.ref a, .int (nI s), .int (nI c), .int x]) (st' := [.int (nI c), .int (nI (s * 10)), .ref p]) (dec_at lsk_10 (k := 5) rfl) rfl ?_
  refine ok_addn (dec_at lsk_10 (k := 6) rfl) ?_
  refine ok_p (lv' := [.ref a, .int (nI s), .int (nI c), .int x]) (st' := [.int x, .int (nI (s * 10 + c)), .ref p]) (dec_at lsk_10 (k := 7) rfl) rfl ?_
  refine ok_istn (dec_at lsk_10 (k := 8) rfl) hp hs (by decide) (fun w1 h1 hne hlen => ?_)
  exact ok_r (dec_at lsk_10 (k := 9) rfl) rfl ⟨rfl, h1, hne, hlen⟩
/-- a row of a machine's steps, the first n letters set -/
def mc_row (f : Nat → Int32) (s n : Nat) (x : Int32) : Nat → Int32 := fun j => if s * 10 ≤ j ∧ j < s * 10 + n then x else f j
theorem mc_row_0 (f : Nat → Int32) (s : Nat) (x : Int32) : mc_row f s 0 x = f := by
  funext j
  simp only [mc_row]
  rw [if_neg (by omega)]
theorem mc_row_s (f : Nat → Int32) (s n : Nat) (x : Int32) : upd (mc_row f s n x) (s * 10 + n) x = mc_row f s (n + 1) x := by
  funext j
  simp only [mc_row, upd]
  by_cases h : j = s * 10 + n
  · rw [if_pos h, if_pos (by omega)]
  · rw [if_neg h]
    by_cases h2 : s * 10 ≤ j ∧ j < s * 10 + n
    · rw [if_pos h2, if_pos (by omega)]
    · rw [if_neg h2, if_neg (by omega)]
/-- Machine.sendAll -/
theorem c_9 {w : ev_W} {a p s : Nat} {x : Int32} {x0 x1 : Value} {f : Nat → Int32} (hap : a ≠ p) (hw : w[a]? = some (.inr (5, [x0, x1, .ref p]))) (hp : w[p]? = some (.inl (0, 400, .inl f))) (hs : s < 40) : okm 2 9 [.ref a, .int (nI s), .int x] w (fun v w' => v = none ∧ w'[p]? = some (.inl (0, 400, .inl (mc_row f s 10 x))) ∧ (∀ j, j ≠ p → w'[j]? = w[j]?) ∧ w'.length = w.length) := by
  refine okm_of me_9 (Nat.le_of_ble_eq_true rfl) ?_
  refine ok_cn (a := 0) (dec_at lsk_9 (k := 0) rfl) rfl (by decide) ?_
  refine ok_p (lv' := [.ref a, .int (nI s), .int x, .int (nI 0)]) (st' := []) (dec_at lsk_9 (k := 1) rfl) rfl ?_
  have loop : ∀ (n c : Nat) (w1 : ev_W), c + n = 10 → w1[p]? = some (.inl (0, 400, .inl (mc_row f s c x))) → (∀ j, j ≠ p → w1[j]? = w[j]?) → w1.length = w.length → ok 1 5 4 false none prog_5_method_12_code (fun v w' => v = none ∧ w'[p]? = some (.inl (0, 400, .inl (mc_row f s 10 x))) ∧ (∀ j, j ≠ p → w'[j]? = w[j]?) ∧ w'.length = w.length) 2 [.ref a, .int (nI s), .int x, .int (nI c)] [] w1 := by
    intro n
    induction n with
    | zero =>
      intro c w1 hc h1 h2 h3
      have hc : c = 10 := by omega
      subst hc
      refine ok_p (lv' := [.ref a, .int (nI s), .int x, .int (nI 10)]) (st' := [.int (nI 10)]) (dec_at lsk_9 (k := 2) rfl) rfl ?_
      refine ok_cn (a := 10) (dec_at lsk_9 (k := 3) rfl) rfl (by decide) ?_
      refine ok_icmp (tgt := 21) (dec_at lsk_9 (k := 4) rfl) (by decide) (ev_ge (by decide) (by decide)) (fun _ => ?_) (fun q => absurd (Nat.le_refl 10) q)
      exact ok_r (dec_at lsk_9 (k := 12) rfl) rfl ⟨rfl, h1, h2, h3⟩
    | succ n ih =>
      intro c w1 hc h1 h2 h3
      refine ok_p (lv' := [.ref a, .int (nI s), .int x, .int (nI c)]) (st' := [.int (nI c)]) (dec_at lsk_9 (k := 2) rfl) rfl ?_
      refine ok_cn (a := 10) (dec_at lsk_9 (k := 3) rfl) rfl (by decide) ?_
      refine ok_icmp (tgt := 21) (dec_at lsk_9 (k := 4) rfl) (by decide) (ev_ge (by omega) (by decide)) (fun q => absurd q (by omega)) (fun _ => ?_)
      refine ok_p (lv' := [.ref a, .int (nI s), .int x, .int (nI c)]) (st' := [.ref a]) (dec_at lsk_9 (k := 5) rfl) rfl ?_
      refine ok_p (lv' := [.ref a, .int (nI s), .int x, .int (nI c)]) (st' := [.int (nI s), .ref a]) (dec_at lsk_9 (k := 6) rfl) rfl ?_
      refine ok_p (lv' := [.ref a, .int (nI s), .int x, .int (nI c)]) (st' := [.int (nI c), .int (nI s), .ref a]) (dec_at lsk_9 (k := 7) rfl) rfl ?_
      refine ok_p (lv' := [.ref a, .int (nI s), .int x, .int (nI c)]) (st' := [.int x, .int (nI c), .int (nI s), .ref a]) (dec_at lsk_9 (k := 8) rfl) rfl ?_
      refine ok_cv (As := [.int (nI s), .int (nI c), .int x]) (rb := a) (st2 := []) (dec_at lsk_9 (k := 9) rfl) m_5_35 (Or.inl rfl) rfl (Nat.zero_le _) ((h2 a hap).trans hw) me_10 rfl (c_10 ((h2 a hap).trans hw) h1 (by omega)) (fun v w2 hv => ?_)
      obtain ⟨rfl, g1, g2, g3⟩ := hv
      refine ok_p (lv' := [.ref a, .int (nI s), .int x, .int (nI (c + 1))]) (st' := []) (dec_at lsk_9 (k := 10) rfl) (by rw [nI_succ]; rfl) ?_
      refine ok_goto (tgt := 2) (dec_at lsk_9 (k := 11) rfl) (by decide) ?_
      exact ih (c + 1) w2 (by omega) (by rw [g1, mc_row_s]) (fun j hj => (g2 j hj).trans (h2 j hj)) (g3.trans h3)
  exact loop 10 0 w rfl (by rw [mc_row_0]; exact hp) (fun _ _ => rfl) rfl
