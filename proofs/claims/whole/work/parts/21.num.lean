/-! Rules on numbers nI a -/
section OK3
variable {d own nL : Nat} {ini : Bool} {ret : Option FieldType} {cc : ByteArray} {Q : Option Value → ev_W → Prop} {pc len : Nat} {i : Instr} {lv lv' : ev_L} {st st' : List Value} {w w' : ev_W} {a b : Nat}
theorem ok_addn (hd : decode cc pc = .ok (.iadd, 1)) (h : ok d own nL ini ret cc Q (pc + 1) lv (.int (nI (a + b)) :: st) w) : ok d own nL ini ret cc Q pc lv (.int (nI b) :: .int (nI a) :: st) w := ok_p (lv' := lv) (st' := .int (nI (a + b)) :: st) hd (by simp [ev_p, ev_bin, ev_ibin, nI_add]) h
theorem ok_muln (hd : decode cc pc = .ok (.imul, 1)) (h : ok d own nL ini ret cc Q (pc + 1) lv (.int (nI (a * b)) :: st) w) : ok d own nL ini ret cc Q pc lv (.int (nI b) :: .int (nI a) :: st) w := ok_p (lv' := lv) (st' := .int (nI (a * b)) :: st) hd (by simp [ev_p, ev_bin, ev_ibin, pk_mul]) h
theorem ok_subn (hd : decode cc pc = .ok (.isub, 1)) (hab : b ≤ a) (h : ok d own nL ini ret cc Q (pc + 1) lv (.int (nI (a - b)) :: st) w) : ok d own nL ini ret cc Q pc lv (.int (nI b) :: .int (nI a) :: st) w := ok_p (lv' := lv) (st' := .int (nI (a - b)) :: st) hd (by simp [ev_p, ev_bin, ev_ibin, pk_sub hab]) h
/-- a constant -/
theorem ok_cn {x : Int32} (hd : decode cc pc = .ok (i, len)) (hp : ev_p own nL i len lv st = some (lv, .int x :: st)) (hx : x = nI a) (h : ok d own nL ini ret cc Q (pc + len) lv (.int (nI a) :: st) w) : ok d own nL ini ret cc Q pc lv st w := ok_p hd hp (by rw [hx]; exact h)
theorem ok_ildn {q n : Nat} {f : Nat → Int32} (hd : decode cc pc = .ok (.iaload, 1)) (hw : w[q]? = some (.inl (0, n, .inl f))) (ha : a < n) (hn : n < 2 ^ 31) (h : ok d own nL ini ret cc Q (pc + 1) lv (.int (f a) :: st) w) : ok d own nL ini ret cc Q pc lv (.int (nI a) :: .ref q :: st) w := ok_iald hd hw (vp_in_nI ha hn) (by rw [nI_clamp (Nat.lt_trans ha hn)]; exact h)
theorem ok_istn {q n : Nat} {f : Nat → Int32} {x : Int32} (hd : decode cc pc = .ok (.iastore, 1)) (hw : w[q]? = some (.inl (0, n, .inl f))) (ha : a < n) (hn : n < 2 ^ 31) (h : ∀ w' : ev_W, w'[q]? = some (.inl (0, n, .inl (upd f a x))) → (∀ j, j ≠ q → w'[j]? = w[j]?) → w'.length = w.length → ok d own nL ini ret cc Q (pc + 1) lv st w') : ok d own nL ini ret cc Q pc lv (.int x :: .int (nI a) :: .ref q :: st) w := ok_iast hd hw (vp_in_nI ha hn) (by rw [nI_clamp (Nat.lt_trans ha hn)]; exact h)
end OK3
/-- Machine.after -/
theorem c_75 {w : ev_W} {a p s c : Nat} {x0 x1 : Value} {f : Nat → Int32} (hw : w[a]? = some (.inr (5, [x0, x1, .ref p]))) (hp : w[p]? = some (.inl (0, 400, .inl f))) (hs : s * 10 + c < 400) : okm 1 75 [.ref a, .int (nI s), .int (nI c)] w (fun v w' => v = some (.int (f (s * 10 + c))) ∧ w' = w) := by
  refine okm_of me_75 (Nat.le_of_ble_eq_true rfl) ?_
  refine ok_p (lv' := [.ref a, .int (nI s), .int (nI c)]) (st' := [.ref a]) (dec_at lsk_75 (k := 0) rfl) rfl ?_
  refine ok_get (dec_at lsk_75 (k := 1) rfl) f_5_15 hw rfl ?_
  refine ok_p (lv' := [.ref a, .int (nI s), .int (nI c)]) (st' := [.int (nI s), .ref p]) (dec_at lsk_75 (k := 2) rfl) rfl ?_
  refine ok_cn (a := 10) (dec_at lsk_75 (k := 3) rfl) rfl (by decide) ?_
  refine ok_muln (dec_at lsk_75 (k := 4) rfl) ?_
  refine ok_p (lv' := [.ref a, .int (nI s), .int (nI c)]) (st' := [.int (nI c), .int (nI (s * 10)), .ref p]) (dec_at lsk_75 (k := 5) rfl) rfl ?_
  refine ok_addn (dec_at lsk_75 (k := 6) rfl) ?_
  refine ok_ildn (dec_at lsk_75 (k := 7) rfl) hp hs (by decide) ?_
  exact ok_r (dec_at lsk_75 (k := 8) rfl) rfl ⟨rfl, rfl⟩
