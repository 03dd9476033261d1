/-! Makers (wip/tools/gen_ctor.py) -/
def blk_5 (a : Nat) : ev_W := .inr (5, [iV 1, .long 0, .ref (a + 1)]) :: ([] ++ [.inl (0, 400, .inl (fun _ => 0))])
theorem mk_5 {d : Nat} (w : ev_W) {a : Nat} (ha : w.length = a) : okmx (d + 1) 5 [.ref a] (w ++ [.inr (5, (ev_cty 5).map defaultValue)]) (w ++ blk_5 a) 1 400 := by
  refine okmx_of me_5 (Nat.le_of_ble_eq_true rfl) ?_
  have hr0 : ([] : ev_W).length = 0 := rfl
  show okx (d + 0) _ _ _ _ _ 0 [.ref a] [] (w ++ (.inr (5, [.int 0, .long 0, .null]) :: [])) (w ++ (.inr (5, [iV 1, .long 0, .ref (a + 1)]) :: ([] ++ [.inl (0, 400, .inl (fun _ => 0))]))) 1 400
  refine okx_p (lv' := [.ref a]) (st' := [.ref a]) (pc := 0) (dec_at lsk_5 (k := 0) rfl) rfl ?_
  refine okx_obj (nn := 0) (pc := 1) (dec_at lsk_5 (k := 1) rfl) m_5_3 (Nat.le_of_ble_eq_true rfl) ?_
  refine okx_p (lv' := [.ref a]) (st' := [.ref a]) (pc := 4) (dec_at lsk_5 (k := 2) rfl) rfl ?_
  refine okx_p (lv' := [.ref a]) (st' := [iV 1, .ref a]) (pc := 5) (dec_at lsk_5 (k := 3) rfl) rfl ?_
  refine okx_put (fs' := [iV 1, .long 0, .null]) (pc := 6) (dec_at lsk_5 (k := 4) rfl) f_5_9 ha rfl ⟨rfl, rfl⟩ rfl (by simp) rfl ?_
  refine okx_p (lv' := [.ref a]) (st' := [.ref a]) (pc := 9) (dec_at lsk_5 (k := 5) rfl) rfl ?_
  refine okx_c (sz := 400) (pc := 10) (dec_at lsk_5 (k := 6) rfl) rfl (by decide) ?_
  refine okx_na2 (z := .inl (fun _ => 0)) (sz := 400) (p := a + 1) (k := 0) (n := 0) (pc := 13) (dec_at lsk_5 (k := 7) rfl) rfl rfl (by decide) ha hr0 (by omega) rfl rfl (fun hr1 => ?_)
  refine okx_put (fs' := [iV 1, .long 0, .ref (a + 1)]) (pc := 15) (dec_at lsk_5 (k := 8) rfl) f_5_15 ha rfl ⟨rfl, rfl⟩ rfl (by simp) rfl ?_
  exact okx_r (pc := 18) (dec_at lsk_5 (k := 9) rfl) rfl
theorem blk_5_len (a : Nat) : (blk_5 a).length = 2 := by simp only [blk_5, List.length_cons, List.length_append, List.length_nil]
def blk_1 (a : Nat) : ev_W := .inr (1, [.ref (a + 1), .ref (a + 2), .ref (a + 3), .int 0, .int 0, .int 0]) :: ((([] ++ [.inl (0, 300, .inl (fun _ => 0))]) ++ [.inl (0, 300, .inl (fun _ => 0))]) ++ [.inl (0, 300, .inl (fun _ => 0))])
theorem mk_1 {d : Nat} (w : ev_W) {a : Nat} (ha : w.length = a) : okmx (d + 1) 1 [.ref a] (w ++ [.inr (1, (ev_cty 1).map defaultValue)]) (w ++ blk_1 a) 3 900 := by
  refine okmx_of me_1 (Nat.le_of_ble_eq_true rfl) ?_
  have hr0 : ([] : ev_W).length = 0 := rfl
  show okx (d + 0) _ _ _ _ _ 0 [.ref a] [] (w ++ (.inr (1, [.null, .null, .null, .int 0, .int 0, .int 0]) :: [])) (w ++ (.inr (1, [.ref (a + 1), .ref (a + 2), .ref (a + 3), .int 0, .int 0, .int 0]) :: ((([] ++ [.inl (0, 300, .inl (fun _ => 0))]) ++ [.inl (0, 300, .inl (fun _ => 0))]) ++ [.inl (0, 300, .inl (fun _ => 0))]))) 3 900
  refine okx_p (lv' := [.ref a]) (st' := [.ref a]) (pc := 0) (dec_at lsk_1 (k := 0) rfl) rfl ?_
  refine okx_obj (nn := 0) (pc := 1) (dec_at lsk_1 (k := 1) rfl) m_1_3 (Nat.le_of_ble_eq_true rfl) ?_
  refine okx_p (lv' := [.ref a]) (st' := [.ref a]) (pc := 4) (dec_at lsk_1 (k := 2) rfl) rfl ?_
  refine okx_c (sz := 300) (pc := 5) (dec_at lsk_1 (k := 3) rfl) rfl (by decide) ?_
  refine okx_na2 (z := .inl (fun _ => 0)) (sz := 300) (p := a + 1) (k := 2) (n := 600) (pc := 8) (dec_at lsk_1 (k := 4) rfl) rfl rfl (by decide) ha hr0 (by omega) rfl rfl (fun hr1 => ?_)
  refine okx_put (fs' := [.ref (a + 1), .null, .null, .int 0, .int 0, .int 0]) (pc := 10) (dec_at lsk_1 (k := 5) rfl) f_1_9 ha rfl ⟨rfl, rfl⟩ rfl (by simp) rfl ?_
  refine okx_p (lv' := [.ref a]) (st' := [.ref a]) (pc := 13) (dec_at lsk_1 (k := 6) rfl) rfl ?_
  refine okx_c (sz := 300) (pc := 14) (dec_at lsk_1 (k := 7) rfl) rfl (by decide) ?_
  refine okx_na2 (z := .inl (fun _ => 0)) (sz := 300) (p := a + 2) (k := 1) (n := 300) (pc := 17) (dec_at lsk_1 (k := 8) rfl) rfl rfl (by decide) ha hr1 (by omega) rfl rfl (fun hr2 => ?_)
  refine okx_put (fs' := [.ref (a + 1), .ref (a + 2), .null, .int 0, .int 0, .int 0]) (pc := 19) (dec_at lsk_1 (k := 9) rfl) f_1_15 ha rfl ⟨rfl, rfl⟩ rfl (by simp) rfl ?_
  refine okx_p (lv' := [.ref a]) (st' := [.ref a]) (pc := 22) (dec_at lsk_1 (k := 10) rfl) rfl ?_
  refine okx_c (sz := 300) (pc := 23) (dec_at lsk_1 (k := 11) rfl) rfl (by decide) ?_
  refine okx_na2 (z := .inl (fun _ => 0)) (sz := 300) (p := a + 3) (k := 0) (n := 0) (pc := 26) (dec_at lsk_1 (k := 12) rfl) rfl rfl (by decide) ha hr2 (by omega) rfl rfl (fun hr3 => ?_)
  refine okx_put (fs' := [.ref (a + 1), .ref (a + 2), .ref (a + 3), .int 0, .int 0, .int 0]) (pc := 28) (dec_at lsk_1 (k := 13) rfl) f_1_18 ha rfl ⟨rfl, rfl⟩ rfl (by simp) rfl ?_
  exact okx_r (pc := 31) (dec_at lsk_1 (k := 14) rfl) rfl
theorem blk_1_len (a : Nat) : (blk_1 a).length = 4 := by simp only [blk_1, List.length_cons, List.length_append, List.length_nil]
def blk_2 (a : Nat) : ev_W := .inr (2, [.int 0, .int 0, .ref (a + 1), .ref (a + 2), .ref (a + 3), .ref (a + 4), .int 0, .int 0, .int 0, .ref (a + 5), .ref (a + 6), .ref (a + 7), .ref (a + 8)]) :: (((((((([] ++ [.inl (0, 10, .inl (fun _ => 0))]) ++ [.inl (0, 30, .inl (fun _ => 0))]) ++ [.inl (0, 30, .inl (fun _ => 0))]) ++ [.inl (0, 180, .inl (fun _ => 0))]) ++ [.inl (1, 10, .inr (.inl (fun _ => 0)))]) ++ [.inl (0, 10, .inl (fun _ => 0))]) ++ [.inl (0, 10, .inl (fun _ => 0))]) ++ [.inl (0, 10, .inl (fun _ => 0))])
theorem mk_2 {d : Nat} (w : ev_W) {a : Nat} (ha : w.length = a) : okmx (d + 1) 2 [.ref a] (w ++ [.inr (2, (ev_cty 2).map defaultValue)]) (w ++ blk_2 a) 8 290 := by
  refine okmx_of me_2 (Nat.le_of_ble_eq_true rfl) ?_
  have hr0 : ([] : ev_W).length = 0 := rfl
  show okx (d + 0) _ _ _ _ _ 0 [.ref a] [] (w ++ (.inr (2, [.int 0, .int 0, .null, .null, .null, .null, .int 0, .int 0, .int 0, .null, .null, .null, .null]) :: [])) (w ++ (.inr (2, [.int 0, .int 0, .ref (a + 1), .ref (a + 2), .ref (a + 3), .ref (a + 4), .int 0, .int 0, .int 0, .ref (a + 5), .ref (a + 6), .ref (a + 7), .ref (a + 8)]) :: (((((((([] ++ [.inl (0, 10, .inl (fun _ => 0))]) ++ [.inl (0, 30, .inl (fun _ => 0))]) ++ [.inl (0, 30, .inl (fun _ => 0))]) ++ [.inl (0, 180, .inl (fun _ => 0))]) ++ [.inl (1, 10, .inr (.inl (fun _ => 0)))]) ++ [.inl (0, 10, .inl (fun _ => 0))]) ++ [.inl (0, 10, .inl (fun _ => 0))]) ++ [.inl (0, 10, .inl (fun _ => 0))]))) 8 290
  refine okx_p (lv' := [.ref a]) (st' := [.ref a]) (pc := 0) (dec_at lsk_2 (k := 0) rfl) rfl ?_
  refine okx_obj (nn := 0) (pc := 1) (dec_at lsk_2 (k := 1) rfl) m_2_3 (Nat.le_of_ble_eq_true rfl) ?_
  refine okx_p (lv' := [.ref a]) (st' := [.ref a]) (pc := 4) (dec_at lsk_2 (k := 2) rfl) rfl ?_
  refine okx_c (sz := 10) (pc := 5) (dec_at lsk_2 (k := 3) rfl) rfl (by decide) ?_
  refine okx_na2 (z := .inl (fun _ => 0)) (sz := 10) (p := a + 1) (k := 7) (n := 280) (pc := 7) (dec_at lsk_2 (k := 4) rfl) rfl rfl (by decide) ha hr0 (by omega) rfl rfl (fun hr1 => ?_)
  refine okx_put (fs' := [.int 0, .int 0, .ref (a + 1), .null, .null, .null, .int 0, .int 0, .int 0, .null, .null, .null, .null]) (pc := 9) (dec_at lsk_2 (k := 5) rfl) f_2_9 ha rfl ⟨rfl, rfl⟩ rfl (by simp) rfl ?_
  refine okx_p (lv' := [.ref a]) (st' := [.ref a]) (pc := 12) (dec_at lsk_2 (k := 6) rfl) rfl ?_
  refine okx_c (sz := 30) (pc := 13) (dec_at lsk_2 (k := 7) rfl) rfl (by decide) ?_
  refine okx_na2 (z := .inl (fun _ => 0)) (sz := 30) (p := a + 2) (k := 6) (n := 250) (pc := 15) (dec_at lsk_2 (k := 8) rfl) rfl rfl (by decide) ha hr1 (by omega) rfl rfl (fun hr2 => ?_)
  refine okx_put (fs' := [.int 0, .int 0, .ref (a + 1), .ref (a + 2), .null, .null, .int 0, .int 0, .int 0, .null, .null, .null, .null]) (pc := 17) (dec_at lsk_2 (k := 9) rfl) f_2_15 ha rfl ⟨rfl, rfl⟩ rfl (by simp) rfl ?_
  refine okx_p (lv' := [.ref a]) (st' := [.ref a]) (pc := 20) (dec_at lsk_2 (k := 10) rfl) rfl ?_
  refine okx_c (sz := 30) (pc := 21) (dec_at lsk_2 (k := 11) rfl) rfl (by decide) ?_
  refine okx_na2 (z := .inl (fun _ => 0)) (sz := 30) (p := a + 3) (k := 5) (n := 220) (pc := 23) (dec_at lsk_2 (k := 12) rfl) rfl rfl (by decide) ha hr2 (by omega) rfl rfl (fun hr3 => ?_)
  refine okx_put (fs' := [.int 0, .int 0, .ref (a + 1), .ref (a + 2), .ref (a + 3), .null, .int 0, .int 0, .int 0, .null, .null, .null, .null]) (pc := 25) (dec_at lsk_2 (k := 13) rfl) f_2_18 ha rfl ⟨rfl, rfl⟩ rfl (by simp) rfl ?_
  refine okx_p (lv' := [.ref a]) (st' := [.ref a]) (pc := 28) (dec_at lsk_2 (k := 14) rfl) rfl ?_
  refine okx_c (sz := 180) (pc := 29) (dec_at lsk_2 (k := 15) rfl) rfl (by decide) ?_
  refine okx_na2 (z := .inl (fun _ => 0)) (sz := 180) (p := a + 4) (k := 4) (n := 40) (pc := 32) (dec_at lsk_2 (k := 16) rfl) rfl rfl (by decide) ha hr3 (by omega) rfl rfl (fun hr4 => ?_)
  refine okx_put (fs' := [.int 0, .int 0, .ref (a + 1), .ref (a + 2), .ref (a + 3), .ref (a + 4), .int 0, .int 0, .int 0, .null, .null, .null, .null]) (pc := 34) (dec_at lsk_2 (k := 17) rfl) f_2_21 ha rfl ⟨rfl, rfl⟩ rfl (by simp) rfl ?_
  refine okx_p (lv' := [.ref a]) (st' := [.ref a]) (pc := 37) (dec_at lsk_2 (k := 18) rfl) rfl ?_
  refine okx_c (sz := 10) (pc := 38) (dec_at lsk_2 (k := 19) rfl) rfl (by decide) ?_
  refine okx_na2 (z := .inr (.inl (fun _ => 0))) (sz := 10) (p := a + 5) (k := 3) (n := 30) (pc := 40) (dec_at lsk_2 (k := 20) rfl) rfl rfl (by decide) ha hr4 (by omega) rfl rfl (fun hr5 => ?_)
  refine okx_put (fs' := [.int 0, .int 0, .ref (a + 1), .ref (a + 2), .ref (a + 3), .ref (a + 4), .int 0, .int 0, .int 0, .ref (a + 5), .null, .null, .null]) (pc := 42) (dec_at lsk_2 (k := 21) rfl) f_2_24 ha rfl ⟨rfl, rfl⟩ rfl (by simp) rfl ?_
  refine okx_p (lv' := [.ref a]) (st' := [.ref a]) (pc := 45) (dec_at lsk_2 (k := 22) rfl) rfl ?_
  refine okx_c (sz := 10) (pc := 46) (dec_at lsk_2 (k := 23) rfl) rfl (by decide) ?_
  refine okx_na2 (z := .inl (fun _ => 0)) (sz := 10) (p := a + 6) (k := 2) (n := 20) (pc := 48) (dec_at lsk_2 (k := 24) rfl) rfl rfl (by decide) ha hr5 (by omega) rfl rfl (fun hr6 => ?_)
  refine okx_put (fs' := [.int 0, .int 0, .ref (a + 1), .ref (a + 2), .ref (a + 3), .ref (a + 4), .int 0, .int 0, .int 0, .ref (a + 5), .ref (a + 6), .null, .null]) (pc := 50) (dec_at lsk_2 (k := 25) rfl) f_2_28 ha rfl ⟨rfl, rfl⟩ rfl (by simp) rfl ?_
  refine okx_p (lv' := [.ref a]) (st' := [.ref a]) (pc := 53) (dec_at lsk_2 (k := 26) rfl) rfl ?_
  refine okx_c (sz := 10) (pc := 54) (dec_at lsk_2 (k := 27) rfl) rfl (by decide) ?_
  refine okx_na2 (z := .inl (fun _ => 0)) (sz := 10) (p := a + 7) (k := 1) (n := 10) (pc := 56) (dec_at lsk_2 (k := 28) rfl) rfl rfl (by decide) ha hr6 (by omega) rfl rfl (fun hr7 => ?_)
  refine okx_put (fs' := [.int 0, .int 0, .ref (a + 1), .ref (a + 2), .ref (a + 3), .ref (a + 4), .int 0, .int 0, .int 0, .ref (a + 5), .ref (a + 6), .ref (a + 7), .null]) (pc := 58) (dec_at lsk_2 (k := 29) rfl) f_2_31 ha rfl ⟨rfl, rfl⟩ rfl (by simp) rfl ?_
  refine okx_p (lv' := [.ref a]) (st' := [.ref a]) (pc := 61) (dec_at lsk_2 (k := 30) rfl) rfl ?_
  refine okx_c (sz := 10) (pc := 62) (dec_at lsk_2 (k := 31) rfl) rfl (by decide) ?_
  refine okx_na2 (z := .inl (fun _ => 0)) (sz := 10) (p := a + 8) (k := 0) (n := 0) (pc := 64) (dec_at lsk_2 (k := 32) rfl) rfl rfl (by decide) ha hr7 (by omega) rfl rfl (fun hr8 => ?_)
  refine okx_put (fs' := [.int 0, .int 0, .ref (a + 1), .ref (a + 2), .ref (a + 3), .ref (a + 4), .int 0, .int 0, .int 0, .ref (a + 5), .ref (a + 6), .ref (a + 7), .ref (a + 8)]) (pc := 66) (dec_at lsk_2 (k := 33) rfl) f_2_34 ha rfl ⟨rfl, rfl⟩ rfl (by simp) rfl ?_
  exact okx_r (pc := 69) (dec_at lsk_2 (k := 34) rfl) rfl
theorem blk_2_len (a : Nat) : (blk_2 a).length = 9 := by simp only [blk_2, List.length_cons, List.length_append, List.length_nil]
def blk_3 (a : Nat) : ev_W := .inr (3, [.ref (a + 1), .ref (a + 2), .ref (a + 3), .int 0, .int 0]) :: ((([] ++ [.inl (0, 26, .inl (fun _ => 0))]) ++ [.inl (0, 26, .inl (fun _ => 0))]) ++ blk_2 (a + 3))
theorem mk_3 {d : Nat} (w : ev_W) {a : Nat} (ha : w.length = a) : okmx (d + 2) 3 [.ref a] (w ++ [.inr (3, (ev_cty 3).map defaultValue)]) (w ++ blk_3 a) 11 355 := by
  refine okmx_of me_3 (Nat.le_of_ble_eq_true rfl) ?_
  have hr0 : ([] : ev_W).length = 0 := rfl
  show okx (d + 1) _ _ _ _ _ 0 [.ref a] [] (w ++ (.inr (3, [.null, .null, .null, .int 0, .int 0]) :: [])) (w ++ (.inr (3, [.ref (a + 1), .ref (a + 2), .ref (a + 3), .int 0, .int 0]) :: ((([] ++ [.inl (0, 26, .inl (fun _ => 0))]) ++ [.inl (0, 26, .inl (fun _ => 0))]) ++ blk_2 (a + 3)))) 11 355
  refine okx_p (lv' := [.ref a]) (st' := [.ref a]) (pc := 0) (dec_at lsk_3 (k := 0) rfl) rfl ?_
  refine okx_obj (nn := 0) (pc := 1) (dec_at lsk_3 (k := 1) rfl) m_3_3 (Nat.le_of_ble_eq_true rfl) ?_
  refine okx_p (lv' := [.ref a]) (st' := [.ref a]) (pc := 4) (dec_at lsk_3 (k := 2) rfl) rfl ?_
  refine okx_c (sz := 26) (pc := 5) (dec_at lsk_3 (k := 3) rfl) rfl (by decide) ?_
  refine okx_na2 (z := .inl (fun _ => 0)) (sz := 26) (p := a + 1) (k := 10) (n := 329) (pc := 7) (dec_at lsk_3 (k := 4) rfl) rfl rfl (by decide) ha hr0 (by omega) rfl rfl (fun hr1 => ?_)
  refine okx_put (fs' := [.ref (a + 1), .null, .null, .int 0, .int 0]) (pc := 9) (dec_at lsk_3 (k := 5) rfl) f_3_9 ha rfl ⟨rfl, rfl⟩ rfl (by simp) rfl ?_
  refine okx_p (lv' := [.ref a]) (st' := [.ref a]) (pc := 12) (dec_at lsk_3 (k := 6) rfl) rfl ?_
  refine okx_c (sz := 26) (pc := 13) (dec_at lsk_3 (k := 7) rfl) rfl (by decide) ?_
  refine okx_na2 (z := .inl (fun _ => 0)) (sz := 26) (p := a + 2) (k := 9) (n := 303) (pc := 15) (dec_at lsk_3 (k := 8) rfl) rfl rfl (by decide) ha hr1 (by omega) rfl rfl (fun hr2 => ?_)
  refine okx_put (fs' := [.ref (a + 1), .ref (a + 2), .null, .int 0, .int 0]) (pc := 17) (dec_at lsk_3 (k := 9) rfl) f_3_15 ha rfl ⟨rfl, rfl⟩ rfl (by simp) rfl ?_
  refine okx_p (lv' := [.ref a]) (st' := [.ref a]) (pc := 20) (dec_at lsk_3 (k := 10) rfl) rfl ?_
  refine okx_mk2 (blk := blk_2) (p := a + 3) (lc := 9) (kC := 8) (nC := 290) (k := 0) (n := 0) (pc := 21) (dec_at lsk_3 (k := 11) rfl) cls_3_18 (by decide) (dec_at lsk_3 (k := 12) rfl) (dec_at lsk_3 (k := 13) rfl) m_3_20 (Or.inr rfl) (Nat.le_of_ble_eq_true rfl) ha hr2 (by omega) (fun w2 h2 => mk_2 w2 h2) rfl rfl rfl rfl (fun hr3 => ?_)
  refine okx_put (fs' := [.ref (a + 1), .ref (a + 2), .ref (a + 3), .int 0, .int 0]) (pc := 28) (dec_at lsk_3 (k := 14) rfl) f_3_21 ha rfl ⟨rfl, rfl⟩ rfl (by simp) rfl ?_
  exact okx_r (pc := 31) (dec_at lsk_3 (k := 15) rfl) rfl
theorem blk_3_len (a : Nat) : (blk_3 a).length = 12 := by simp only [blk_3, List.length_cons, List.length_append, List.length_nil, blk_2_len]
def blk_4 (a : Nat) : ev_W := .inr (4, [.ref (a + 1), .ref (a + 10), .int 0, .int 0, .ref (a + 11), .ref (a + 12), .ref (a + 13), .ref (a + 14), .int 0, .ref (a + 15), .ref (a + 16), .ref (a + 17), .ref (a + 18), .ref (a + 19), .ref (a + 20), .ref (a + 21), .int 0, .int 0]) :: ((((((((((((([] ++ blk_2 (a + 1)) ++ [.inl (0, 40, .inl (fun _ => 0))]) ++ [.inl (1, 10, .inr (.inl (fun _ => 0)))]) ++ [.inl (1, 210, .inr (.inl (fun _ => 0)))]) ++ [.inl (1, 100, .inr (.inl (fun _ => 0)))]) ++ [.inl (0, 10, .inl (fun _ => 0))]) ++ [.inl (1, 16810, .inr (.inl (fun _ => 0)))]) ++ [.inl (1, 8610, .inr (.inl (fun _ => 0)))]) ++ [.inl (1, 210, .inr (.inl (fun _ => 0)))]) ++ [.inl (1, 10, .inr (.inl (fun _ => 0)))]) ++ [.inl (1, 10, .inr (.inl (fun _ => 0)))]) ++ [.inl (1, 10, .inr (.inl (fun _ => 0)))]) ++ [.inl (1, 41, .inr (.inl (fun _ => 0)))])
theorem mk_4 {d : Nat} (w : ev_W) {a : Nat} (ha : w.length = a) : okmx (d + 2) 4 [.ref a] (w ++ [.inr (4, (ev_cty 4).map defaultValue)]) (w ++ blk_4 a) 21 26374 := by
  refine okmx_of me_4 (Nat.le_of_ble_eq_true rfl) ?_
  have hr0 : ([] : ev_W).length = 0 := rfl
  show okx (d + 1) _ _ _ _ _ 0 [.ref a] [] (w ++ (.inr (4, [.null, .null, .int 0, .int 0, .null, .null, .null, .null, .int 0, .null, .null, .null, .null, .null, .null, .null, .int 0, .int 0]) :: [])) (w ++ (.inr (4, [.ref (a + 1), .ref (a + 10), .int 0, .int 0, .ref (a + 11), .ref (a + 12), .ref (a + 13), .ref (a + 14), .int 0, .ref (a + 15), .ref (a + 16), .ref (a + 17), .ref (a + 18), .ref (a + 19), .ref (a + 20), .ref (a + 21), .int 0, .int 0]) :: ((((((((((((([] ++ blk_2 (a + 1)) ++ [.inl (0, 40, .inl (fun _ => 0))]) ++ [.inl (1, 10, .inr (.inl (fun _ => 0)))]) ++ [.inl (1, 210, .inr (.inl (fun _ => 0)))]) ++ [.inl (1, 100, .inr (.inl (fun _ => 0)))]) ++ [.inl (0, 10, .inl (fun _ => 0))]) ++ [.inl (1, 16810, .inr (.inl (fun _ => 0)))]) ++ [.inl (1, 8610, .inr (.inl (fun _ => 0)))]) ++ [.inl (1, 210, .inr (.inl (fun _ => 0)))]) ++ [.inl (1, 10, .inr (.inl (fun _ => 0)))]) ++ [.inl (1, 10, .inr (.inl (fun _ => 0)))]) ++ [.inl (1, 10, .inr (.inl (fun _ => 0)))]) ++ [.inl (1, 41, .inr (.inl (fun _ => 0)))]))) 21 26374
  refine okx_p (lv' := [.ref a]) (st' := [.ref a]) (pc := 0) (dec_at lsk_4 (k := 0) rfl) rfl ?_
  refine okx_obj (nn := 0) (pc := 1) (dec_at lsk_4 (k := 1) rfl) m_4_3 (Nat.le_of_ble_eq_true rfl) ?_
  refine okx_p (lv' := [.ref a]) (st' := [.ref a]) (pc := 4) (dec_at lsk_4 (k := 2) rfl) rfl ?_
  refine okx_mk2 (blk := blk_2) (p := a + 1) (lc := 9) (kC := 8) (nC := 290) (k := 12) (n := 26071) (pc := 5) (dec_at lsk_4 (k := 3) rfl) cls_4_9 (by decide) (dec_at lsk_4 (k := 4) rfl) (dec_at lsk_4 (k := 5) rfl) m_4_11 (Or.inr rfl) (Nat.le_of_ble_eq_true rfl) ha hr0 (by omega) (fun w2 h2 => mk_2 w2 h2) rfl rfl rfl rfl (fun hr1 => ?_)
  refine okx_put (fs' := [.ref (a + 1), .null, .int 0, .int 0, .null, .null, .null, .null, .int 0, .null, .null, .null, .null, .null, .null, .null, .int 0, .int 0]) (pc := 12) (dec_at lsk_4 (k := 6) rfl) f_4_12 ha rfl ⟨rfl, rfl⟩ rfl (by simp) rfl ?_
  refine okx_p (lv' := [.ref a]) (st' := [.ref a]) (pc := 15) (dec_at lsk_4 (k := 7) rfl) rfl ?_
  refine okx_c (sz := 40) (pc := 16) (dec_at lsk_4 (k := 8) rfl) rfl (by decide) ?_
  refine okx_na2 (z := .inl (fun _ => 0)) (sz := 40) (p := a + 10) (k := 11) (n := 26031) (pc := 18) (dec_at lsk_4 (k := 9) rfl) rfl rfl (by decide) ha hr1 (by omega) rfl rfl (fun hr2 => ?_)
  refine okx_put (fs' := [.ref (a + 1), .ref (a + 10), .int 0, .int 0, .null, .null, .null, .null, .int 0, .null, .null, .null, .null, .null, .null, .null, .int 0, .int 0]) (pc := 20) (dec_at lsk_4 (k := 10) rfl) f_4_18 ha rfl ⟨rfl, rfl⟩ rfl (by simp) rfl ?_
  refine okx_p (lv' := [.ref a]) (st' := [.ref a]) (pc := 23) (dec_at lsk_4 (k := 11) rfl) rfl ?_
  refine okx_c (sz := 10) (pc := 24) (dec_at lsk_4 (k := 12) rfl) rfl (by decide) ?_
  refine okx_na2 (z := .inr (.inl (fun _ => 0))) (sz := 10) (p := a + 11) (k := 10) (n := 26021) (pc := 26) (dec_at lsk_4 (k := 13) rfl) rfl rfl (by decide) ha hr2 (by omega) rfl rfl (fun hr3 => ?_)
  refine okx_put (fs' := [.ref (a + 1), .ref (a + 10), .int 0, .int 0, .ref (a + 11), .null, .null, .null, .int 0, .null, .null, .null, .null, .null, .null, .null, .int 0, .int 0]) (pc := 28) (dec_at lsk_4 (k := 14) rfl) f_4_22 ha rfl ⟨rfl, rfl⟩ rfl (by simp) rfl ?_
  refine okx_p (lv' := [.ref a]) (st' := [.ref a]) (pc := 31) (dec_at lsk_4 (k := 15) rfl) rfl ?_
  refine okx_c (sz := 210) (pc := 32) (dec_at lsk_4 (k := 16) rfl) rfl (by decide) ?_
  refine okx_na2 (z := .inr (.inl (fun _ => 0))) (sz := 210) (p := a + 12) (k := 9) (n := 25811) (pc := 35) (dec_at lsk_4 (k := 17) rfl) rfl rfl (by decide) ha hr3 (by omega) rfl rfl (fun hr4 => ?_)
  refine okx_put (fs' := [.ref (a + 1), .ref (a + 10), .int 0, .int 0, .ref (a + 11), .ref (a + 12), .null, .null, .int 0, .null, .null, .null, .null, .null, .null, .null, .int 0, .int 0]) (pc := 37) (dec_at lsk_4 (k := 18) rfl) f_4_26 ha rfl ⟨rfl, rfl⟩ rfl (by simp) rfl ?_
  refine okx_p (lv' := [.ref a]) (st' := [.ref a]) (pc := 40) (dec_at lsk_4 (k := 19) rfl) rfl ?_
  refine okx_c (sz := 100) (pc := 41) (dec_at lsk_4 (k := 20) rfl) rfl (by decide) ?_
  refine okx_na2 (z := .inr (.inl (fun _ => 0))) (sz := 100) (p := a + 13) (k := 8) (n := 25711) (pc := 43) (dec_at lsk_4 (k := 21) rfl) rfl rfl (by decide) ha hr4 (by omega) rfl rfl (fun hr5 => ?_)
  refine okx_put (fs' := [.ref (a + 1), .ref (a + 10), .int 0, .int 0, .ref (a + 11), .ref (a + 12), .ref (a + 13), .null, .int 0, .null, .null, .null, .null, .null, .null, .null, .int 0, .int 0]) (pc := 45) (dec_at lsk_4 (k := 22) rfl) f_4_29 ha rfl ⟨rfl, rfl⟩ rfl (by simp) rfl ?_
  refine okx_p (lv' := [.ref a]) (st' := [.ref a]) (pc := 48) (dec_at lsk_4 (k := 23) rfl) rfl ?_
  refine okx_c (sz := 10) (pc := 49) (dec_at lsk_4 (k := 24) rfl) rfl (by decide) ?_
  refine okx_na2 (z := .inl (fun _ => 0)) (sz := 10) (p := a + 14) (k := 7) (n := 25701) (pc := 51) (dec_at lsk_4 (k := 25) rfl) rfl rfl (by decide) ha hr5 (by omega) rfl rfl (fun hr6 => ?_)
  refine okx_put (fs' := [.ref (a + 1), .ref (a + 10), .int 0, .int 0, .ref (a + 11), .ref (a + 12), .ref (a + 13), .ref (a + 14), .int 0, .null, .null, .null, .null, .null, .null, .null, .int 0, .int 0]) (pc := 53) (dec_at lsk_4 (k := 26) rfl) f_4_32 ha rfl ⟨rfl, rfl⟩ rfl (by simp) rfl ?_
  refine okx_p (lv' := [.ref a]) (st' := [.ref a]) (pc := 56) (dec_at lsk_4 (k := 27) rfl) rfl ?_
  refine okx_c (sz := 16810) (pc := 57) (dec_at lsk_4 (k := 28) rfl) rfl (by decide) ?_
  refine okx_na2 (z := .inr (.inl (fun _ => 0))) (sz := 16810) (p := a + 15) (k := 6) (n := 8891) (pc := 60) (dec_at lsk_4 (k := 29) rfl) rfl rfl (by decide) ha hr6 (by omega) rfl rfl (fun hr7 => ?_)
  refine okx_put (fs' := [.ref (a + 1), .ref (a + 10), .int 0, .int 0, .ref (a + 11), .ref (a + 12), .ref (a + 13), .ref (a + 14), .int 0, .ref (a + 15), .null, .null, .null, .null, .null, .null, .int 0, .int 0]) (pc := 62) (dec_at lsk_4 (k := 30) rfl) f_4_35 ha rfl ⟨rfl, rfl⟩ rfl (by simp) rfl ?_
  refine okx_p (lv' := [.ref a]) (st' := [.ref a]) (pc := 65) (dec_at lsk_4 (k := 31) rfl) rfl ?_
  refine okx_c (sz := 8610) (pc := 66) (dec_at lsk_4 (k := 32) rfl) rfl (by decide) ?_
  refine okx_na2 (z := .inr (.inl (fun _ => 0))) (sz := 8610) (p := a + 16) (k := 5) (n := 281) (pc := 69) (dec_at lsk_4 (k := 33) rfl) rfl rfl (by decide) ha hr7 (by omega) rfl rfl (fun hr8 => ?_)
  refine okx_put (fs' := [.ref (a + 1), .ref (a + 10), .int 0, .int 0, .ref (a + 11), .ref (a + 12), .ref (a + 13), .ref (a + 14), .int 0, .ref (a + 15), .ref (a + 16), .null, .null, .null, .null, .null, .int 0, .int 0]) (pc := 71) (dec_at lsk_4 (k := 34) rfl) f_4_38 ha rfl ⟨rfl, rfl⟩ rfl (by simp) rfl ?_
  refine okx_p (lv' := [.ref a]) (st' := [.ref a]) (pc := 74) (dec_at lsk_4 (k := 35) rfl) rfl ?_
  refine okx_c (sz := 210) (pc := 75) (dec_at lsk_4 (k := 36) rfl) rfl (by decide) ?_
  refine okx_na2 (z := .inr (.inl (fun _ => 0))) (sz := 210) (p := a + 17) (k := 4) (n := 71) (pc := 78) (dec_at lsk_4 (k := 37) rfl) rfl rfl (by decide) ha hr8 (by omega) rfl rfl (fun hr9 => ?_)
  refine okx_put (fs' := [.ref (a + 1), .ref (a + 10), .int 0, .int 0, .ref (a + 11), .ref (a + 12), .ref (a + 13), .ref (a + 14), .int 0, .ref (a + 15), .ref (a + 16), .ref (a + 17), .null, .null, .null, .null, .int 0, .int 0]) (pc := 80) (dec_at lsk_4 (k := 38) rfl) f_4_41 ha rfl ⟨rfl, rfl⟩ rfl (by simp) rfl ?_
  refine okx_p (lv' := [.ref a]) (st' := [.ref a]) (pc := 83) (dec_at lsk_4 (k := 39) rfl) rfl ?_
  refine okx_c (sz := 10) (pc := 84) (dec_at lsk_4 (k := 40) rfl) rfl (by decide) ?_
  refine okx_na2 (z := .inr (.inl (fun _ => 0))) (sz := 10) (p := a + 18) (k := 3) (n := 61) (pc := 86) (dec_at lsk_4 (k := 41) rfl) rfl rfl (by decide) ha hr9 (by omega) rfl rfl (fun hr10 => ?_)
  refine okx_put (fs' := [.ref (a + 1), .ref (a + 10), .int 0, .int 0, .ref (a + 11), .ref (a + 12), .ref (a + 13), .ref (a + 14), .int 0, .ref (a + 15), .ref (a + 16), .ref (a + 17), .ref (a + 18), .null, .null, .null, .int 0, .int 0]) (pc := 88) (dec_at lsk_4 (k := 42) rfl) f_4_44 ha rfl ⟨rfl, rfl⟩ rfl (by simp) rfl ?_
  refine okx_p (lv' := [.ref a]) (st' := [.ref a]) (pc := 91) (dec_at lsk_4 (k := 43) rfl) rfl ?_
  refine okx_c (sz := 10) (pc := 92) (dec_at lsk_4 (k := 44) rfl) rfl (by decide) ?_
  refine okx_na2 (z := .inr (.inl (fun _ => 0))) (sz := 10) (p := a + 19) (k := 2) (n := 51) (pc := 94) (dec_at lsk_4 (k := 45) rfl) rfl rfl (by decide) ha hr10 (by omega) rfl rfl (fun hr11 => ?_)
  refine okx_put (fs' := [.ref (a + 1), .ref (a + 10), .int 0, .int 0, .ref (a + 11), .ref (a + 12), .ref (a + 13), .ref (a + 14), .int 0, .ref (a + 15), .ref (a + 16), .ref (a + 17), .ref (a + 18), .ref (a + 19), .null, .null, .int 0, .int 0]) (pc := 96) (dec_at lsk_4 (k := 46) rfl) f_4_47 ha rfl ⟨rfl, rfl⟩ rfl (by simp) rfl ?_
  refine okx_p (lv' := [.ref a]) (st' := [.ref a]) (pc := 99) (dec_at lsk_4 (k := 47) rfl) rfl ?_
  refine okx_c (sz := 10) (pc := 100) (dec_at lsk_4 (k := 48) rfl) rfl (by decide) ?_
  refine okx_na2 (z := .inr (.inl (fun _ => 0))) (sz := 10) (p := a + 20) (k := 1) (n := 41) (pc := 102) (dec_at lsk_4 (k := 49) rfl) rfl rfl (by decide) ha hr11 (by omega) rfl rfl (fun hr12 => ?_)
  refine okx_put (fs' := [.ref (a + 1), .ref (a + 10), .int 0, .int 0, .ref (a + 11), .ref (a + 12), .ref (a + 13), .ref (a + 14), .int 0, .ref (a + 15), .ref (a + 16), .ref (a + 17), .ref (a + 18), .ref (a + 19), .ref (a + 20), .null, .int 0, .int 0]) (pc := 104) (dec_at lsk_4 (k := 50) rfl) f_4_50 ha rfl ⟨rfl, rfl⟩ rfl (by simp) rfl ?_
  refine okx_p (lv' := [.ref a]) (st' := [.ref a]) (pc := 107) (dec_at lsk_4 (k := 51) rfl) rfl ?_
  refine okx_c (sz := 41) (pc := 108) (dec_at lsk_4 (k := 52) rfl) rfl (by decide) ?_
  refine okx_na2 (z := .inr (.inl (fun _ => 0))) (sz := 41) (p := a + 21) (k := 0) (n := 0) (pc := 110) (dec_at lsk_4 (k := 53) rfl) rfl rfl (by decide) ha hr12 (by omega) rfl rfl (fun hr13 => ?_)
  refine okx_put (fs' := [.ref (a + 1), .ref (a + 10), .int 0, .int 0, .ref (a + 11), .ref (a + 12), .ref (a + 13), .ref (a + 14), .int 0, .ref (a + 15), .ref (a + 16), .ref (a + 17), .ref (a + 18), .ref (a + 19), .ref (a + 20), .ref (a + 21), .int 0, .int 0]) (pc := 112) (dec_at lsk_4 (k := 54) rfl) f_4_53 ha rfl ⟨rfl, rfl⟩ rfl (by simp) rfl ?_
  exact okx_r (pc := 115) (dec_at lsk_4 (k := 55) rfl) rfl
theorem blk_4_len (a : Nat) : (blk_4 a).length = 22 := by simp only [blk_4, List.length_cons, List.length_append, List.length_nil, blk_2_len]
def blk_7 (a : Nat) : ev_W := .inr (7, [.int 0, .ref (a + 1), .ref (a + 1), .int 0, .int 0, .ref (a + 3), .ref (a + 4), .ref (a + 5), .ref (a + 6), .ref (a + 7), .ref (a + 8), .ref (a + 9), .ref (a + 10), .ref (a + 11), .int 0, .ref (a + 12), .ref (a + 13)]) :: (((((((((((([] ++ blk_5 (a + 1)) ++ [.inl (0, 2000, .inl (fun _ => 0))]) ++ [.inl (1, 2000, .inr (.inl (fun _ => 0)))]) ++ [.inl (0, 20000, .inl (fun _ => 0))]) ++ [.inl (0, 4096, .inl (fun _ => 0))]) ++ [.inl (0, 2000, .inl (fun _ => 0))]) ++ [.inl (2, 2000, .inl (fun _ => 0))]) ++ [.inl (0, 2000, .inl (fun _ => 0))]) ++ [.inl (0, 2000, .inl (fun _ => 0))]) ++ [.inl (0, 1681, .inl (fun _ => 0))]) ++ [.inl (0, 40, .inl (fun _ => 0))]) ++ [.inl (0, 40, .inl (fun _ => 0))])
theorem mk_7 {d : Nat} (w : ev_W) {a : Nat} (ha : w.length = a) : okmx (d + 2) 7 [.ref a] (w ++ [.inr (7, (ev_cty 7).map defaultValue)]) (w ++ blk_7 a) 13 38260 := by
  refine okmx_of me_7 (Nat.le_of_ble_eq_true rfl) ?_
  have hr0 : ([] : ev_W).length = 0 := rfl
  show okx (d + 1) _ _ _ _ _ 0 [.ref a] [] (w ++ (.inr (7, [.int 0, .null, .null, .int 0, .int 0, .null, .null, .null, .null, .null, .null, .null, .null, .null, .int 0, .null, .null]) :: [])) (w ++ (.inr (7, [.int 0, .ref (a + 1), .ref (a + 1), .int 0, .int 0, .ref (a + 3), .ref (a + 4), .ref (a + 5), .ref (a + 6), .ref (a + 7), .ref (a + 8), .ref (a + 9), .ref (a + 10), .ref (a + 11), .int 0, .ref (a + 12), .ref (a + 13)]) :: (((((((((((([] ++ blk_5 (a + 1)) ++ [.inl (0, 2000, .inl (fun _ => 0))]) ++ [.inl (1, 2000, .inr (.inl (fun _ => 0)))]) ++ [.inl (0, 20000, .inl (fun _ => 0))]) ++ [.inl (0, 4096, .inl (fun _ => 0))]) ++ [.inl (0, 2000, .inl (fun _ => 0))]) ++ [.inl (2, 2000, .inl (fun _ => 0))]) ++ [.inl (0, 2000, .inl (fun _ => 0))]) ++ [.inl (0, 2000, .inl (fun _ => 0))]) ++ [.inl (0, 1681, .inl (fun _ => 0))]) ++ [.inl (0, 40, .inl (fun _ => 0))]) ++ [.inl (0, 40, .inl (fun _ => 0))]))) 13 38260
  refine okx_p (lv' := [.ref a]) (st' := [.ref a]) (pc := 0) (dec_at lsk_7 (k := 0) rfl) rfl ?_
  refine okx_obj (nn := 0) (pc := 1) (dec_at lsk_7 (k := 1) rfl) m_7_3 (Nat.le_of_ble_eq_true rfl) ?_
  refine okx_p (lv' := [.ref a]) (st' := [.ref a]) (pc := 4) (dec_at lsk_7 (k := 2) rfl) rfl ?_
  refine okx_mk2 (blk := blk_5) (p := a + 1) (lc := 2) (kC := 1) (nC := 400) (k := 11) (n := 37857) (pc := 5) (dec_at lsk_7 (k := 3) rfl) cls_7_9 (by decide) (dec_at lsk_7 (k := 4) rfl) (dec_at lsk_7 (k := 5) rfl) m_7_11 (Or.inr rfl) (Nat.le_of_ble_eq_true rfl) ha hr0 (by omega) (fun w2 h2 => mk_5 w2 h2) rfl rfl rfl rfl (fun hr1 => ?_)
  refine okx_put (fs' := [.int 0, .ref (a + 1), .null, .int 0, .int 0, .null, .null, .null, .null, .null, .null, .null, .null, .null, .int 0, .null, .null]) (pc := 12) (dec_at lsk_7 (k := 6) rfl) f_7_12 ha rfl ⟨rfl, rfl⟩ rfl (by simp) rfl ?_
  refine okx_p (lv' := [.ref a]) (st' := [.ref a]) (pc := 15) (dec_at lsk_7 (k := 7) rfl) rfl ?_
  refine okx_p (lv' := [.ref a]) (st' := [.ref a, .ref a]) (pc := 16) (dec_at lsk_7 (k := 8) rfl) rfl ?_
  refine okx_get (pc := 17) (dec_at lsk_7 (k := 9) rfl) f_7_12 ha rfl ?_
  refine okx_put (fs' := [.int 0, .ref (a + 1), .ref (a + 1), .int 0, .int 0, .null, .null, .null, .null, .null, .null, .null, .null, .null, .int 0, .null, .null]) (pc := 20) (dec_at lsk_7 (k := 10) rfl) f_7_18 ha rfl ⟨rfl, rfl⟩ rfl (by simp) rfl ?_
  refine okx_p (lv' := [.ref a]) (st' := [.ref a]) (pc := 23) (dec_at lsk_7 (k := 11) rfl) rfl ?_
  refine okx_c (sz := 2000) (pc := 24) (dec_at lsk_7 (k := 12) rfl) rfl (by decide) ?_
  refine okx_na2 (z := .inl (fun _ => 0)) (sz := 2000) (p := a + 3) (k := 10) (n := 35857) (pc := 27) (dec_at lsk_7 (k := 13) rfl) rfl rfl (by decide) ha hr1 (by omega) rfl rfl (fun hr2 => ?_)
  refine okx_put (fs' := [.int 0, .ref (a + 1), .ref (a + 1), .int 0, .int 0, .ref (a + 3), .null, .null, .null, .null, .null, .null, .null, .null, .int 0, .null, .null]) (pc := 29) (dec_at lsk_7 (k := 14) rfl) f_7_21 ha rfl ⟨rfl, rfl⟩ rfl (by simp) rfl ?_
  refine okx_p (lv' := [.ref a]) (st' := [.ref a]) (pc := 32) (dec_at lsk_7 (k := 15) rfl) rfl ?_
  refine okx_c (sz := 2000) (pc := 33) (dec_at lsk_7 (k := 16) rfl) rfl (by decide) ?_
  refine okx_na2 (z := .inr (.inl (fun _ => 0))) (sz := 2000) (p := a + 4) (k := 9) (n := 33857) (pc := 36) (dec_at lsk_7 (k := 17) rfl) rfl rfl (by decide) ha hr2 (by omega) rfl rfl (fun hr3 => ?_)
  refine okx_put (fs' := [.int 0, .ref (a + 1), .ref (a + 1), .int 0, .int 0, .ref (a + 3), .ref (a + 4), .null, .null, .null, .null, .null, .null, .null, .int 0, .null, .null]) (pc := 38) (dec_at lsk_7 (k := 18) rfl) f_7_25 ha rfl ⟨rfl, rfl⟩ rfl (by simp) rfl ?_
  refine okx_p (lv' := [.ref a]) (st' := [.ref a]) (pc := 41) (dec_at lsk_7 (k := 19) rfl) rfl ?_
  refine okx_c (sz := 20000) (pc := 42) (dec_at lsk_7 (k := 20) rfl) rfl (by decide) ?_
  refine okx_na2 (z := .inl (fun _ => 0)) (sz := 20000) (p := a + 5) (k := 8) (n := 13857) (pc := 45) (dec_at lsk_7 (k := 21) rfl) rfl rfl (by decide) ha hr3 (by omega) rfl rfl (fun hr4 => ?_)
  refine okx_put (fs' := [.int 0, .ref (a + 1), .ref (a + 1), .int 0, .int 0, .ref (a + 3), .ref (a + 4), .ref (a + 5), .null, .null, .null, .null, .null, .null, .int 0, .null, .null]) (pc := 47) (dec_at lsk_7 (k := 22) rfl) f_7_29 ha rfl ⟨rfl, rfl⟩ rfl (by simp) rfl ?_
  refine okx_p (lv' := [.ref a]) (st' := [.ref a]) (pc := 50) (dec_at lsk_7 (k := 23) rfl) rfl ?_
  refine okx_c (sz := 4096) (pc := 51) (dec_at lsk_7 (k := 24) rfl) rfl (by decide) ?_
  refine okx_na2 (z := .inl (fun _ => 0)) (sz := 4096) (p := a + 6) (k := 7) (n := 9761) (pc := 54) (dec_at lsk_7 (k := 25) rfl) rfl rfl (by decide) ha hr4 (by omega) rfl rfl (fun hr5 => ?_)
  refine okx_put (fs' := [.int 0, .ref (a + 1), .ref (a + 1), .int 0, .int 0, .ref (a + 3), .ref (a + 4), .ref (a + 5), .ref (a + 6), .null, .null, .null, .null, .null, .int 0, .null, .null]) (pc := 56) (dec_at lsk_7 (k := 26) rfl) f_7_32 ha rfl ⟨rfl, rfl⟩ rfl (by simp) rfl ?_
  refine okx_p (lv' := [.ref a]) (st' := [.ref a]) (pc := 59) (dec_at lsk_7 (k := 27) rfl) rfl ?_
  refine okx_c (sz := 2000) (pc := 60) (dec_at lsk_7 (k := 28) rfl) rfl (by decide) ?_
  refine okx_na2 (z := .inl (fun _ => 0)) (sz := 2000) (p := a + 7) (k := 6) (n := 7761) (pc := 63) (dec_at lsk_7 (k := 29) rfl) rfl rfl (by decide) ha hr5 (by omega) rfl rfl (fun hr6 => ?_)
  refine okx_put (fs' := [.int 0, .ref (a + 1), .ref (a + 1), .int 0, .int 0, .ref (a + 3), .ref (a + 4), .ref (a + 5), .ref (a + 6), .ref (a + 7), .null, .null, .null, .null, .int 0, .null, .null]) (pc := 65) (dec_at lsk_7 (k := 30) rfl) f_7_35 ha rfl ⟨rfl, rfl⟩ rfl (by simp) rfl ?_
  refine okx_p (lv' := [.ref a]) (st' := [.ref a]) (pc := 68) (dec_at lsk_7 (k := 31) rfl) rfl ?_
  refine okx_c (sz := 2000) (pc := 69) (dec_at lsk_7 (k := 32) rfl) rfl (by decide) ?_
  refine okx_na2 (z := .inl (fun _ => 0)) (sz := 2000) (p := a + 8) (k := 5) (n := 5761) (pc := 72) (dec_at lsk_7 (k := 33) rfl) rfl rfl (by decide) ha hr6 (by omega) rfl rfl (fun hr7 => ?_)
  refine okx_put (fs' := [.int 0, .ref (a + 1), .ref (a + 1), .int 0, .int 0, .ref (a + 3), .ref (a + 4), .ref (a + 5), .ref (a + 6), .ref (a + 7), .ref (a + 8), .null, .null, .null, .int 0, .null, .null]) (pc := 74) (dec_at lsk_7 (k := 34) rfl) f_7_38 ha rfl ⟨rfl, rfl⟩ rfl (by simp) rfl ?_
  refine okx_p (lv' := [.ref a]) (st' := [.ref a]) (pc := 77) (dec_at lsk_7 (k := 35) rfl) rfl ?_
  refine okx_c (sz := 2000) (pc := 78) (dec_at lsk_7 (k := 36) rfl) rfl (by decide) ?_
  refine okx_na2 (z := .inl (fun _ => 0)) (sz := 2000) (p := a + 9) (k := 4) (n := 3761) (pc := 81) (dec_at lsk_7 (k := 37) rfl) rfl rfl (by decide) ha hr7 (by omega) rfl rfl (fun hr8 => ?_)
  refine okx_put (fs' := [.int 0, .ref (a + 1), .ref (a + 1), .int 0, .int 0, .ref (a + 3), .ref (a + 4), .ref (a + 5), .ref (a + 6), .ref (a + 7), .ref (a + 8), .ref (a + 9), .null, .null, .int 0, .null, .null]) (pc := 83) (dec_at lsk_7 (k := 38) rfl) f_7_42 ha rfl ⟨rfl, rfl⟩ rfl (by simp) rfl ?_
  refine okx_p (lv' := [.ref a]) (st' := [.ref a]) (pc := 86) (dec_at lsk_7 (k := 39) rfl) rfl ?_
  refine okx_c (sz := 2000) (pc := 87) (dec_at lsk_7 (k := 40) rfl) rfl (by decide) ?_
  refine okx_na2 (z := .inl (fun _ => 0)) (sz := 2000) (p := a + 10) (k := 3) (n := 1761) (pc := 90) (dec_at lsk_7 (k := 41) rfl) rfl rfl (by decide) ha hr8 (by omega) rfl rfl (fun hr9 => ?_)
  refine okx_put (fs' := [.int 0, .ref (a + 1), .ref (a + 1), .int 0, .int 0, .ref (a + 3), .ref (a + 4), .ref (a + 5), .ref (a + 6), .ref (a + 7), .ref (a + 8), .ref (a + 9), .ref (a + 10), .null, .int 0, .null, .null]) (pc := 92) (dec_at lsk_7 (k := 42) rfl) f_7_45 ha rfl ⟨rfl, rfl⟩ rfl (by simp) rfl ?_
  refine okx_p (lv' := [.ref a]) (st' := [.ref a]) (pc := 95) (dec_at lsk_7 (k := 43) rfl) rfl ?_
  refine okx_c (sz := 1681) (pc := 96) (dec_at lsk_7 (k := 44) rfl) rfl (by decide) ?_
  refine okx_na2 (z := .inl (fun _ => 0)) (sz := 1681) (p := a + 11) (k := 2) (n := 80) (pc := 99) (dec_at lsk_7 (k := 45) rfl) rfl rfl (by decide) ha hr9 (by omega) rfl rfl (fun hr10 => ?_)
  refine okx_put (fs' := [.int 0, .ref (a + 1), .ref (a + 1), .int 0, .int 0, .ref (a + 3), .ref (a + 4), .ref (a + 5), .ref (a + 6), .ref (a + 7), .ref (a + 8), .ref (a + 9), .ref (a + 10), .ref (a + 11), .int 0, .null, .null]) (pc := 101) (dec_at lsk_7 (k := 46) rfl) f_7_48 ha rfl ⟨rfl, rfl⟩ rfl (by simp) rfl ?_
  refine okx_p (lv' := [.ref a]) (st' := [.ref a]) (pc := 104) (dec_at lsk_7 (k := 47) rfl) rfl ?_
  refine okx_c (sz := 40) (pc := 105) (dec_at lsk_7 (k := 48) rfl) rfl (by decide) ?_
  refine okx_na2 (z := .inl (fun _ => 0)) (sz := 40) (p := a + 12) (k := 1) (n := 40) (pc := 107) (dec_at lsk_7 (k := 49) rfl) rfl rfl (by decide) ha hr10 (by omega) rfl rfl (fun hr11 => ?_)
  refine okx_put (fs' := [.int 0, .ref (a + 1), .ref (a + 1), .int 0, .int 0, .ref (a + 3), .ref (a + 4), .ref (a + 5), .ref (a + 6), .ref (a + 7), .ref (a + 8), .ref (a + 9), .ref (a + 10), .ref (a + 11), .int 0, .ref (a + 12), .null]) (pc := 109) (dec_at lsk_7 (k := 50) rfl) f_7_51 ha rfl ⟨rfl, rfl⟩ rfl (by simp) rfl ?_
  refine okx_p (lv' := [.ref a]) (st' := [.ref a]) (pc := 112) (dec_at lsk_7 (k := 51) rfl) rfl ?_
  refine okx_c (sz := 40) (pc := 113) (dec_at lsk_7 (k := 52) rfl) rfl (by decide) ?_
  refine okx_na2 (z := .inl (fun _ => 0)) (sz := 40) (p := a + 13) (k := 0) (n := 0) (pc := 115) (dec_at lsk_7 (k := 53) rfl) rfl rfl (by decide) ha hr11 (by omega) rfl rfl (fun hr12 => ?_)
  refine okx_put (fs' := [.int 0, .ref (a + 1), .ref (a + 1), .int 0, .int 0, .ref (a + 3), .ref (a + 4), .ref (a + 5), .ref (a + 6), .ref (a + 7), .ref (a + 8), .ref (a + 9), .ref (a + 10), .ref (a + 11), .int 0, .ref (a + 12), .ref (a + 13)]) (pc := 117) (dec_at lsk_7 (k := 54) rfl) f_7_54 ha rfl ⟨rfl, rfl⟩ rfl (by simp) rfl ?_
  exact okx_r (pc := 120) (dec_at lsk_7 (k := 55) rfl) rfl
theorem blk_7_len (a : Nat) : (blk_7 a).length = 14 := by simp only [blk_7, List.length_cons, List.length_append, List.length_nil, blk_5_len]
