/-! Makers (wip/tools/gen_ctor.py) -/
/-! The maker of the sixth kind: a machine's cells again and again -/
abbrev nA (t n : Nat) (f : Nat → Option Nat) : va_E := .inl (t, n, .inr (.inr (.inr (.inr f))))
def upTo (p l : Nat) : Nat → Option Nat := fun i => if i < l then some (p + 6 * i) else none
theorem upTo_0 (p : Nat) : upTo p 0 = fun _ => none := by
  funext i
  simp [upTo]
theorem upTo_s (p l : Nat) : va_up (upTo p l) l (some (p + 6 * l)) = upTo p (l + 1) := by
  funext i
  simp only [va_up, upTo]
  by_cases h : i = l
  · subst h
    rw [if_pos rfl, if_pos (by omega)]
  · rw [if_neg h]
    by_cases h2 : i < l
    · rw [if_pos h2, if_pos (by omega)]
    · rw [if_neg h2, if_neg (by omega)]
def bl6 (a : Nat) : Nat → ev_W
  | 0 => []
  | l + 1 => bl6 a l ++ blk_5 (a + 26 + 6 * l) ++ blk_5 (a + 28 + 6 * l) ++ blk_5 (a + 30 + 6 * l)
theorem bl6_len (a : Nat) : ∀ l, (bl6 a l).length = 6 * l
  | 0 => rfl
  | l + 1 => by
    simp only [bl6, List.length_append, bl6_len a l]
    show 6 * l + 2 + 2 + 2 = 6 * (l + 1)
    omega
def ew6 (a : Nat) : ev_W := [.inr (5, [iV 2, lV 1, .ref (a + 16)]), .inl (0, 400, .inl (mc_row (mc_row (fun _ => 0) 0 10 (Int32.ofInt 1)) 1 10 (Int32.ofInt 1)))]
def z46 : ev_W := [.inl (2, 16, .inl (fun _ => 0)), .inl (2, 16, .inl (fun _ => 0)), .inl (2, 16, .inl (fun _ => 0)), .inl (2, 16, .inl (fun _ => 0))]
def o6 (a : Nat) : va_E := .inr (6, [.int 0, .int 0, .int 0, .ref (a + 1), .ref (a + 15), .ref (a + 17), .ref (a + 19), .ref (a + 20), .ref (a + 21), .ref (a + 22), .ref (a + 23), .ref (a + 24), .ref (a + 25), .int 0])
/-- what the maker has made, with l rows of machines and the arrays told so far -/
def r6 (a lw ls lr : Nat) (b : ev_W) : ev_W := ((blk_7 (a + 1) ++ ew6 a ++ blk_5 (a + 17)) ++ [nA 3 16 (upTo (a + 26) lw), nA 3 16 (upTo (a + 28) ls), nA 3 16 (upTo (a + 30) lr)]) ++ (z46 ++ b)
def blk_6 (a : Nat) : ev_W := o6 a :: r6 a 16 16 16 (bl6 a 16)
theorem r6_len (a lw ls lr : Nat) (b : ev_W) : (r6 a lw ls lr b).length = 25 + b.length := by
  simp only [r6, List.length_append]
  show 14 + 2 + 2 + 3 + (4 + b.length) = 25 + b.length
  omega
theorem blk_6_len (a : Nat) : (blk_6 a).length = 122 := by
  simp only [blk_6, List.length_cons, r6_len, bl6_len]
theorem okx_icmp {d own nL : Nat} {ini : Bool} {ret : Option FieldType} {cc : ByteArray} {pc : Nat} {lv : ev_L} {st : List Value} {w w' : ev_W} {k n : Nat} {c : Jvm.ClassFile.Cond} {o : Int} {tgt : Nat} {x y : Int32} {b : Bool} (hd : decode cc pc = .ok (.if_icmp c o, 3)) (ht : (pc : Int) + o = (tgt : Int)) (hb : ev_cond c x y = b) (h : okx d own nL ini ret cc (if b = true then tgt else pc + 3) lv st w w' k n) : okx d own nL ini ret cc pc lv (.int y :: .int x :: st) w w' k n := by
  have h0 : 0 ≤ (pc : Int) + o := by omega
  cases b with
  | true => exact okx_b (pc' := tgt) (st' := st) hd (by simp [ev_b, h0, hb, ht]) h
  | false => exact okx_b (pc' := pc + 3) (st' := st) hd (by simp [ev_b, h0, hb]) h
theorem mk6_loop {d : Nat} (w : ev_W) {a : Nat} (ha : w.length = a) : ∀ (m l : Nat), l + m = 16 → okx (d + 1) 6 2 true none prog_2_method_1_code 105 [.ref a, .int (nI l)] [] (w ++ (o6 a :: r6 a l l l (bl6 a l))) (w ++ blk_6 a) (6 * m) (1209 * m)
  | 0, l, hm => by
    have e : l = 16 := by omega
    subst e
    refine okx_p (lv' := [.ref a, .int (nI 16)]) (st' := [.int (nI 16)]) (pc := 105) (dec_at lsk_6 (k := 50) rfl) rfl ?_
    refine okx_c (sz := 16) (pc := 106) (dec_at lsk_6 (k := 51) rfl) rfl (by decide) ?_
    refine okx_icmp (b := true) (tgt := 156) (pc := 108) (dec_at lsk_6 (k := 52) rfl) rfl (by decide) ?_
    exact okx_r (pc := 156) (dec_at lsk_6 (k := 76) rfl) rfl
  | m + 1, l, hm => by
    have hl : l < 16 := by omega
    have e1 : 6 * (m + 1) = 1 + (1 + (1 + (1 + (1 + (1 + 6 * m))))) := by omega
    have e2 : 1209 * (m + 1) = 3 + (400 + (3 + (400 + (3 + (400 + 1209 * m))))) := by omega
    rw [e1, e2]
    have hr0 : (r6 a l l l (bl6 a l)).length = 25 + 6 * l := by rw [r6_len, bl6_len]
    refine okx_p (lv' := [.ref a, .int (nI l)]) (st' := [.int (nI l)]) (pc := 105) (dec_at lsk_6 (k := 50) rfl) rfl ?_
    refine okx_c (sz := 16) (pc := 106) (dec_at lsk_6 (k := 51) rfl) rfl (by decide) ?_
    refine okx_icmp (b := false) (tgt := 156) (pc := 108) (dec_at lsk_6 (k := 52) rfl) rfl (by
      have h := (ev_ge (a := l) (b := 16) (by omega) (by decide))
      cases hc : ev_cond .ge (nI l) (nI 16) with
      | true => exact absurd (h.mp hc) (by omega)
      | false => rfl) ?_
    refine okx_p (lv' := [.ref a, .int (nI l)]) (st' := [.ref a]) (pc := 111) (dec_at lsk_6 (k := 53) rfl) rfl ?_
    refine okx_get (v := .ref (a + 19)) (pc := 112) (dec_at lsk_6 (k := 54) rfl) f_6_28 ha rfl ?_
    refine okx_p (lv' := [.ref a, .int (nI l)]) (st' := [.int (nI l), .ref (a + 19)]) (pc := 115) (dec_at lsk_6 (k := 55) rfl) rfl ?_
    refine okx_mk2 (blk := blk_5) (p := a + 26 + 6 * l) (lc := 2) (kC := 1) (nC := 400) (pc := 116) (dec_at lsk_6 (k := 56) rfl) cls_6_18 (by decide) (dec_at lsk_6 (k := 57) rfl) (dec_at lsk_6 (k := 58) rfl) m_6_20 (Or.inr rfl) (Nat.le_of_ble_eq_true rfl) ha hr0 (by omega) (fun w2 h2 => mk_5 w2 h2) rfl rfl rfl rfl (fun hr1 => ?_)
    refine okx_as (t := 3) (sz := 16) (A := blk_7 (a + 1) ++ ew6 a ++ blk_5 (a + 17)) (B := [nA 3 16 (upTo (a + 28) l), nA 3 16 (upTo (a + 30) l)] ++ (z46 ++ (bl6 a l ++ blk_5 (a + 26 + 6 * l)))) (mA := 18) (f := upTo (a + 26) l) (pc := 123) (dec_at lsk_6 (k := 59) rfl) ha rfl (by omega) (by simp [r6]) (mk_at ha hr0 (by omega)) rfl rfl hl (by decide) ?_
    have f1 : (blk_7 (a + 1) ++ ew6 a ++ blk_5 (a + 17) ++ [nA 3 16 (va_up (upTo (a + 26) l) l (some (a + 26 + 6 * l)))] ++ ([nA 3 16 (upTo (a + 28) l), nA 3 16 (upTo (a + 30) l)] ++ (z46 ++ (bl6 a l ++ blk_5 (a + 26 + 6 * l))))) = r6 a (l + 1) l l (bl6 a l ++ blk_5 (a + 26 + 6 * l)) := by
      rw [upTo_s]
      simp [r6]
    rw [f1]
    have hr2 : (r6 a (l + 1) l l (bl6 a l ++ blk_5 (a + 26 + 6 * l))).length = 27 + 6 * l := by
      rw [r6_len, List.length_append, bl6_len]
      show 25 + (6 * l + 2) = 27 + 6 * l
      omega
    refine okx_p (lv' := [.ref a, .int (nI l)]) (st' := [.ref a]) (pc := 124) (dec_at lsk_6 (k := 60) rfl) rfl ?_
    refine okx_get (v := .ref (a + 20)) (pc := 125) (dec_at lsk_6 (k := 61) rfl) f_6_32 ha rfl ?_
    refine okx_p (lv' := [.ref a, .int (nI l)]) (st' := [.int (nI l), .ref (a + 20)]) (pc := 128) (dec_at lsk_6 (k := 62) rfl) rfl ?_
    refine okx_mk2 (blk := blk_5) (p := a + 28 + 6 * l) (lc := 2) (kC := 1) (nC := 400) (pc := 129) (dec_at lsk_6 (k := 63) rfl) cls_6_18 (by decide) (dec_at lsk_6 (k := 64) rfl) (dec_at lsk_6 (k := 65) rfl) m_6_20 (Or.inr rfl) (Nat.le_of_ble_eq_true rfl) ha hr2 (by omega) (fun w2 h2 => mk_5 w2 h2) rfl rfl rfl rfl (fun hr3 => ?_)
    refine okx_as (t := 3) (sz := 16) (A := blk_7 (a + 1) ++ ew6 a ++ blk_5 (a + 17) ++ [nA 3 16 (upTo (a + 26) (l + 1))]) (B := [nA 3 16 (upTo (a + 30) l)] ++ (z46 ++ (bl6 a l ++ blk_5 (a + 26 + 6 * l) ++ blk_5 (a + 28 + 6 * l)))) (mA := 19) (f := upTo (a + 28) l) (pc := 136) (dec_at lsk_6 (k := 66) rfl) ha rfl (by omega) (by simp [r6]) (mk_at ha hr2 (by omega)) rfl rfl hl (by decide) ?_
    have f2 : (blk_7 (a + 1) ++ ew6 a ++ blk_5 (a + 17) ++ [nA 3 16 (upTo (a + 26) (l + 1))] ++ [nA 3 16 (va_up (upTo (a + 28) l) l (some (a + 28 + 6 * l)))] ++ ([nA 3 16 (upTo (a + 30) l)] ++ (z46 ++ (bl6 a l ++ blk_5 (a + 26 + 6 * l) ++ blk_5 (a + 28 + 6 * l))))) = r6 a (l + 1) (l + 1) l (bl6 a l ++ blk_5 (a + 26 + 6 * l) ++ blk_5 (a + 28 + 6 * l)) := by
      rw [upTo_s]
      simp [r6]
    rw [f2]
    have hr4 : (r6 a (l + 1) (l + 1) l (bl6 a l ++ blk_5 (a + 26 + 6 * l) ++ blk_5 (a + 28 + 6 * l))).length = 29 + 6 * l := by
      rw [r6_len, List.length_append, List.length_append, bl6_len]
      show 25 + (6 * l + 2 + 2) = 29 + 6 * l
      omega
    refine okx_p (lv' := [.ref a, .int (nI l)]) (st' := [.ref a]) (pc := 137) (dec_at lsk_6 (k := 67) rfl) rfl ?_
    refine okx_get (v := .ref (a + 21)) (pc := 138) (dec_at lsk_6 (k := 68) rfl) f_6_35 ha rfl ?_
    refine okx_p (lv' := [.ref a, .int (nI l)]) (st' := [.int (nI l), .ref (a + 21)]) (pc := 141) (dec_at lsk_6 (k := 69) rfl) rfl ?_
    refine okx_mk2 (blk := blk_5) (p := a + 30 + 6 * l) (lc := 2) (kC := 1) (nC := 400) (pc := 142) (dec_at lsk_6 (k := 70) rfl) cls_6_18 (by decide) (dec_at lsk_6 (k := 71) rfl) (dec_at lsk_6 (k := 72) rfl) m_6_20 (Or.inr rfl) (Nat.le_of_ble_eq_true rfl) ha hr4 (by omega) (fun w2 h2 => mk_5 w2 h2) rfl rfl rfl rfl (fun hr5 => ?_)
    refine okx_as (t := 3) (sz := 16) (A := blk_7 (a + 1) ++ ew6 a ++ blk_5 (a + 17) ++ [nA 3 16 (upTo (a + 26) (l + 1)), nA 3 16 (upTo (a + 28) (l + 1))]) (B := z46 ++ (bl6 a l ++ blk_5 (a + 26 + 6 * l) ++ blk_5 (a + 28 + 6 * l) ++ blk_5 (a + 30 + 6 * l))) (mA := 20) (f := upTo (a + 30) l) (pc := 149) (dec_at lsk_6 (k := 73) rfl) ha rfl (by omega) (by simp [r6]) (mk_at ha hr4 (by omega)) rfl rfl hl (by decide) ?_
    have f3 : (blk_7 (a + 1) ++ ew6 a ++ blk_5 (a + 17) ++ [nA 3 16 (upTo (a + 26) (l + 1)), nA 3 16 (upTo (a + 28) (l + 1))] ++ [nA 3 16 (va_up (upTo (a + 30) l) l (some (a + 30 + 6 * l)))] ++ (z46 ++ (bl6 a l ++ blk_5 (a + 26 + 6 * l) ++ blk_5 (a + 28 + 6 * l) ++ blk_5 (a + 30 + 6 * l)))) = r6 a (l + 1) (l + 1) (l + 1) (bl6 a (l + 1)) := by
      rw [upTo_s]
      simp [r6, bl6]
    rw [f3]
    refine okx_p (lv' := [.ref a, .int (nI (l + 1))]) (st' := []) (pc := 150) (dec_at lsk_6 (k := 74) rfl) (by rw [nI_succ]; rfl) ?_
    refine okx_b (pc' := 105) (st' := []) (pc := 153) (dec_at lsk_6 (k := 75) rfl) rfl ?_
    exact mk6_loop w ha m (l + 1) (by omega)
theorem okx_cv {d own nL : Nat} {ini : Bool} {ret : Option FieldType} {cc : ByteArray} {pc : Nat} {lv : ev_L} {st : List Value} {w w1 w' : ev_W} {k n k1 n1 : Nat} {x kd j rb ci : Nat} {q : Nat × Nat × Nat} {fs : List Value} {qm : ev_MT} (hd : decode cc pc = .ok (.invokevirtual x, 3)) (hm : ev_mth own x = some (kd, j, 0, q)) (hk : kd = 3 ∨ kd = 6) (hc : ev_cat st ≤ 8) (hw : w[rb]? = some (.inr (ci, fs))) (hq : ev_mL[j]? = some qm) (hci : ci = qm.1) (hM : okmx d j [.ref rb] w w1 k1 n1) (h : okx d own nL ini ret cc (pc + 3) lv st w1 w' k n) : okx d own nL ini ret cc pc lv (.ref rb :: st) w w' (k1 + k) (n1 + n) := by
  obtain ⟨f1, hM⟩ := hM
  refine okx_h (st' := st) (w1 := w1) hd f1 (fun f hf => ?_) h
  have e := ev_m_mono (Nat.le_refl d) hf _ _ _ _ hM
  simp [ev_h, ev_virt, hm, hk, ev_pop, hc, hw, hq, hci, e, ev_back]
theorem set_of {w w1 : ev_W} {i j : Nat} {e e' : va_E} (hij : i ≠ j) (hi : i < w.length) (hj : j < w.length) (h1 : w1[i]? = some e) (h2 : w1[j]? = some e') (h3 : ∀ k, k ≠ i → k ≠ j → w1[k]? = w[k]?) : w1 = (w.set i e).set j e' := by
  apply List.ext_getElem?
  intro k
  by_cases hk : k = j
  · subst hk
    rw [List.getElem?_set_self (by rw [List.length_set]; exact hj)]
    exact h2
  · rw [List.getElem?_set_ne (Ne.symm hk)]
    by_cases hk2 : k = i
    · subst hk2
      rw [List.getElem?_set_self hi]
      exact h1
    · rw [List.getElem?_set_ne (Ne.symm hk2)]
      exact h3 k hk2 hk
theorem mk6_b {d : Nat} (w : ev_W) {a : Nat} (ha : w.length = a) : okx (d + 3) 6 2 true none prog_2_method_1_code 96 [.ref a, .retAddr 0] [] (w ++ (o6 a :: (((((((((([] ++ blk_7 (a + 1)) ++ blk_5 (a + 15)) ++ blk_5 (a + 17)) ++ [nA 3 16 (fun _ => none)]) ++ [nA 3 16 (fun _ => none)]) ++ [nA 3 16 (fun _ => none)]) ++ [.inl (2, 16, .inl (fun _ => 0))]) ++ [.inl (2, 16, .inl (fun _ => 0))]) ++ [.inl (2, 16, .inl (fun _ => 0))]) ++ [.inl (2, 16, .inl (fun _ => 0))]))) (w ++ blk_6 a) 96 19344 := by
  have hA : ([] ++ blk_7 (a + 1) : ev_W).length = 14 := rfl
  have hR : ((((((((((([] ++ blk_7 (a + 1)) ++ blk_5 (a + 15)) ++ blk_5 (a + 17)) ++ [nA 3 16 (fun _ => none)]) ++ [nA 3 16 (fun _ => none)]) ++ [nA 3 16 (fun _ => none)]) ++ [.inl (2, 16, .inl (fun _ => 0))]) ++ [.inl (2, 16, .inl (fun _ => 0))]) ++ [.inl (2, 16, .inl (fun _ => 0))]) ++ [.inl (2, 16, .inl (fun _ => 0))]) : ev_W) = (([] ++ blk_7 (a + 1)) ++ [.inr (5, [iV 1, .long 0, .ref (a + 15 + 1)])]) ++ ([.inl (0, 400, .inl (fun _ => 0))] ++ (blk_5 (a + 17) ++ ([nA 3 16 (fun _ => none), nA 3 16 (fun _ => none), nA 3 16 (fun _ => none)] ++ z46))) := by
    simp [blk_5, z46]
  rw [hR]
  refine okx_p (lv' := [.ref a, .retAddr 0]) (st' := [.ref a]) (pc := 96) (dec_at lsk_6 (k := 45) rfl) rfl ?_
  refine okx_get (v := .ref (a + 15)) (pc := 97) (dec_at lsk_6 (k := 46) rfl) f_6_21 ha rfl ?_
  have g1 : (w ++ (o6 a :: ((([] ++ blk_7 (a + 1)) ++ [.inr (5, [iV 1, .long 0, .ref (a + 15 + 1)])]) ++ ([.inl (0, 400, .inl (fun _ => 0))] ++ (blk_5 (a + 17) ++ ([nA 3 16 (fun _ => none), nA 3 16 (fun _ => none), nA 3 16 (fun _ => none)] ++ z46))))))[a + 15]? = some (.inr (5, [iV 1, .long 0, .ref (a + 15 + 1)])) := by
    rw [List.append_assoc ([] ++ blk_7 (a + 1))]
    exact mk_at ha hA (by omega)
  have g2 : (w ++ (o6 a :: ((([] ++ blk_7 (a + 1)) ++ [.inr (5, [iV 1, .long 0, .ref (a + 15 + 1)])]) ++ ([.inl (0, 400, .inl (fun _ => 0))] ++ (blk_5 (a + 17) ++ ([nA 3 16 (fun _ => none), nA 3 16 (fun _ => none), nA 3 16 (fun _ => none)] ++ z46))))))[a + 15 + 1]? = some (.inl (0, 400, .inl (fun _ => 0))) := mk_at (R := ([] ++ blk_7 (a + 1)) ++ [.inr (5, [iV 1, .long 0, .ref (a + 15 + 1)])]) (m := 15) ha rfl (by omega)
  have hl1 := (List.getElem?_eq_some_iff.mp g1).1
  have hl2 := (List.getElem?_eq_some_iff.mp g2).1
  refine okx_cv (k1 := 0) (n1 := 0) (k := 96) (n := 19344) (pc := 100) (dec_at lsk_6 (k := 47) rfl) m_6_51 (Or.inl rfl) (Nat.zero_le _) g1 me_8 rfl (okmx.mono (okx_okm (w' := w ++ (o6 a :: r6 a 0 0 0 [])) (c_8 (by omega) g1 g2) (fun v w2 hq => ⟨hq.1, ?_⟩)) (by omega)) ?_
  · obtain ⟨-, q1, q2, q3, -⟩ := hq
    rw [set_of (by omega) hl1 hl2 q1 q2 q3, mk_st ha hA (by omega)]
    have e3 : (([] ++ blk_7 (a + 1)) ++ [.inr (5, [iV 2, lV 1, .ref (a + 15 + 1)])] ++ ([.inl (0, 400, .inl (fun _ => 0))] ++ (blk_5 (a + 17) ++ ([nA 3 16 (fun _ => none), nA 3 16 (fun _ => none), nA 3 16 (fun _ => none)] ++ z46))) : ev_W) = ((([] ++ blk_7 (a + 1)) ++ [.inr (5, [iV 2, lV 1, .ref (a + 15 + 1)])]) ++ [.inl (0, 400, .inl (fun _ => 0))]) ++ (blk_5 (a + 17) ++ ([nA 3 16 (fun _ => none), nA 3 16 (fun _ => none), nA 3 16 (fun _ => none)] ++ z46)) := by
      simp
    rw [e3, mk_st (m := 15) ha rfl (by omega)]
    simp [r6, ew6, upTo_0]
  refine okx_p (lv' := [.ref a, .retAddr 0]) (st' := [.int (nI 0)]) (pc := 103) (dec_at lsk_6 (k := 48) rfl) rfl ?_
  refine okx_p (lv' := [.ref a, .int (nI 0)]) (st' := []) (pc := 104) (dec_at lsk_6 (k := 49) rfl) rfl ?_
  exact mk6_loop (d := d + 2) w ha 16 0 rfl
theorem mk_6 {d : Nat} (w : ev_W) {a : Nat} (ha : w.length = a) : okmx (d + 4) 6 [.ref a] (w ++ [.inr (6, (ev_cty 6).map defaultValue)]) (w ++ blk_6 a) 121 58539 := by
  refine okmx_of me_6 (Nat.le_of_ble_eq_true rfl) ?_
  have hr0 : ([] : ev_W).length = 0 := rfl
  show okx (d + 3) _ _ _ _ _ 0 [.ref a, .retAddr 0] [] (w ++ (.inr (6, [.int 0, .int 0, .int 0, .null, .null, .null, .null, .null, .null, .null, .null, .null, .null, .int 0]) :: [])) (w ++ blk_6 a) 121 58539
  refine okx_p (lv' := [.ref a, .retAddr 0]) (st' := [.ref a]) (pc := 0) (dec_at lsk_6 (k := 0) rfl) rfl ?_
  refine okx_obj (nn := 0) (pc := 1) (dec_at lsk_6 (k := 1) rfl) m_6_3 (Nat.le_of_ble_eq_true rfl) ?_
  refine okx_p (lv' := [.ref a, .retAddr 0]) (st' := [.ref a]) (pc := 4) (dec_at lsk_6 (k := 2) rfl) rfl ?_
  refine okx_mk2 (blk := blk_7) (p := a + 1) (lc := 14) (kC := 13) (nC := 38260) (k := 107) (n := 20262) (pc := 5) (dec_at lsk_6 (k := 3) rfl) cls_6_9 (by decide) (dec_at lsk_6 (k := 4) rfl) (dec_at lsk_6 (k := 5) rfl) m_6_11 (Or.inr rfl) (Nat.le_of_ble_eq_true rfl) ha hr0 (by omega) (fun w2 h2 => mk_7 w2 h2) rfl rfl rfl rfl (fun hr1 => ?_)
  refine okx_put (fs' := [.int 0, .int 0, .int 0, .ref (a + 1), .null, .null, .null, .null, .null, .null, .null, .null, .null, .int 0]) (pc := 12) (dec_at lsk_6 (k := 6) rfl) f_6_12 ha rfl ⟨rfl, rfl⟩ rfl (by simp) rfl ?_
  refine okx_p (lv' := [.ref a, .retAddr 0]) (st' := [.ref a]) (pc := 15) (dec_at lsk_6 (k := 7) rfl) rfl ?_
  refine okx_mk2 (blk := blk_5) (p := a + 15) (lc := 2) (kC := 1) (nC := 400) (k := 105) (n := 19859) (pc := 16) (dec_at lsk_6 (k := 8) rfl) cls_6_18 (by decide) (dec_at lsk_6 (k := 9) rfl) (dec_at lsk_6 (k := 10) rfl) m_6_20 (Or.inr rfl) (Nat.le_of_ble_eq_true rfl) ha hr1 (by omega) (fun w2 h2 => mk_5 w2 h2) rfl rfl rfl rfl (fun hr2 => ?_)
  refine okx_put (fs' := [.int 0, .int 0, .int 0, .ref (a + 1), .ref (a + 15), .null, .null, .null, .null, .null, .null, .null, .null, .int 0]) (pc := 23) (dec_at lsk_6 (k := 11) rfl) f_6_21 ha rfl ⟨rfl, rfl⟩ rfl (by simp) rfl ?_
  refine okx_p (lv' := [.ref a, .retAddr 0]) (st' := [.ref a]) (pc := 26) (dec_at lsk_6 (k := 12) rfl) rfl ?_
  refine okx_mk2 (blk := blk_5) (p := a + 17) (lc := 2) (kC := 1) (nC := 400) (k := 103) (n := 19456) (pc := 27) (dec_at lsk_6 (k := 13) rfl) cls_6_18 (by decide) (dec_at lsk_6 (k := 14) rfl) (dec_at lsk_6 (k := 15) rfl) m_6_20 (Or.inr rfl) (Nat.le_of_ble_eq_true rfl) ha hr2 (by omega) (fun w2 h2 => mk_5 w2 h2) rfl rfl rfl rfl (fun hr3 => ?_)
  refine okx_put (fs' := [.int 0, .int 0, .int 0, .ref (a + 1), .ref (a + 15), .ref (a + 17), .null, .null, .null, .null, .null, .null, .null, .int 0]) (pc := 34) (dec_at lsk_6 (k := 16) rfl) f_6_25 ha rfl ⟨rfl, rfl⟩ rfl (by simp) rfl ?_
  refine okx_p (lv' := [.ref a, .retAddr 0]) (st' := [.ref a]) (pc := 37) (dec_at lsk_6 (k := 17) rfl) rfl ?_
  refine okx_c (sz := 16) (pc := 38) (dec_at lsk_6 (k := 18) rfl) rfl (by decide) ?_
  refine okx_an2 (sz := 16) (p := a + 19) (k := 102) (n := 19440) (pc := 40) (dec_at lsk_6 (k := 19) rfl) cls_6_18 rfl rfl (by decide) ha hr3 (by omega) rfl rfl (fun hr4 => ?_)
  refine okx_put (fs' := [.int 0, .int 0, .int 0, .ref (a + 1), .ref (a + 15), .ref (a + 17), .ref (a + 19), .null, .null, .null, .null, .null, .null, .int 0]) (pc := 43) (dec_at lsk_6 (k := 20) rfl) f_6_28 ha rfl ⟨rfl, rfl⟩ rfl (by simp) rfl ?_
  refine okx_p (lv' := [.ref a, .retAddr 0]) (st' := [.ref a]) (pc := 46) (dec_at lsk_6 (k := 21) rfl) rfl ?_
  refine okx_c (sz := 16) (pc := 47) (dec_at lsk_6 (k := 22) rfl) rfl (by decide) ?_
  refine okx_an2 (sz := 16) (p := a + 20) (k := 101) (n := 19424) (pc := 49) (dec_at lsk_6 (k := 23) rfl) cls_6_18 rfl rfl (by decide) ha hr4 (by omega) rfl rfl (fun hr5 => ?_)
  refine okx_put (fs' := [.int 0, .int 0, .int 0, .ref (a + 1), .ref (a + 15), .ref (a + 17), .ref (a + 19), .ref (a + 20), .null, .null, .null, .null, .null, .int 0]) (pc := 52) (dec_at lsk_6 (k := 24) rfl) f_6_32 ha rfl ⟨rfl, rfl⟩ rfl (by simp) rfl ?_
  refine okx_p (lv' := [.ref a, .retAddr 0]) (st' := [.ref a]) (pc := 55) (dec_at lsk_6 (k := 25) rfl) rfl ?_
  refine okx_c (sz := 16) (pc := 56) (dec_at lsk_6 (k := 26) rfl) rfl (by decide) ?_
  refine okx_an2 (sz := 16) (p := a + 21) (k := 100) (n := 19408) (pc := 58) (dec_at lsk_6 (k := 27) rfl) cls_6_18 rfl rfl (by decide) ha hr5 (by omega) rfl rfl (fun hr6 => ?_)
  refine okx_put (fs' := [.int 0, .int 0, .int 0, .ref (a + 1), .ref (a + 15), .ref (a + 17), .ref (a + 19), .ref (a + 20), .ref (a + 21), .null, .null, .null, .null, .int 0]) (pc := 61) (dec_at lsk_6 (k := 28) rfl) f_6_35 ha rfl ⟨rfl, rfl⟩ rfl (by simp) rfl ?_
  refine okx_p (lv' := [.ref a, .retAddr 0]) (st' := [.ref a]) (pc := 64) (dec_at lsk_6 (k := 29) rfl) rfl ?_
  refine okx_c (sz := 16) (pc := 65) (dec_at lsk_6 (k := 30) rfl) rfl (by decide) ?_
  refine okx_na2 (z := .inl (fun _ => 0)) (sz := 16) (p := a + 22) (k := 99) (n := 19392) (pc := 67) (dec_at lsk_6 (k := 31) rfl) rfl rfl (by decide) ha hr6 (by omega) rfl rfl (fun hr7 => ?_)
  refine okx_put (fs' := [.int 0, .int 0, .int 0, .ref (a + 1), .ref (a + 15), .ref (a + 17), .ref (a + 19), .ref (a + 20), .ref (a + 21), .ref (a + 22), .null, .null, .null, .int 0]) (pc := 69) (dec_at lsk_6 (k := 32) rfl) f_6_38 ha rfl ⟨rfl, rfl⟩ rfl (by simp) rfl ?_
  refine okx_p (lv' := [.ref a, .retAddr 0]) (st' := [.ref a]) (pc := 72) (dec_at lsk_6 (k := 33) rfl) rfl ?_
  refine okx_c (sz := 16) (pc := 73) (dec_at lsk_6 (k := 34) rfl) rfl (by decide) ?_
  refine okx_na2 (z := .inl (fun _ => 0)) (sz := 16) (p := a + 23) (k := 98) (n := 19376) (pc := 75) (dec_at lsk_6 (k := 35) rfl) rfl rfl (by decide) ha hr7 (by omega) rfl rfl (fun hr8 => ?_)
  refine okx_put (fs' := [.int 0, .int 0, .int 0, .ref (a + 1), .ref (a + 15), .ref (a + 17), .ref (a + 19), .ref (a + 20), .ref (a + 21), .ref (a + 22), .ref (a + 23), .null, .null, .int 0]) (pc := 77) (dec_at lsk_6 (k := 36) rfl) f_6_42 ha rfl ⟨rfl, rfl⟩ rfl (by simp) rfl ?_
  refine okx_p (lv' := [.ref a, .retAddr 0]) (st' := [.ref a]) (pc := 80) (dec_at lsk_6 (k := 37) rfl) rfl ?_
  refine okx_c (sz := 16) (pc := 81) (dec_at lsk_6 (k := 38) rfl) rfl (by decide) ?_
  refine okx_na2 (z := .inl (fun _ => 0)) (sz := 16) (p := a + 24) (k := 97) (n := 19360) (pc := 83) (dec_at lsk_6 (k := 39) rfl) rfl rfl (by decide) ha hr8 (by omega) rfl rfl (fun hr9 => ?_)
  refine okx_put (fs' := [.int 0, .int 0, .int 0, .ref (a + 1), .ref (a + 15), .ref (a + 17), .ref (a + 19), .ref (a + 20), .ref (a + 21), .ref (a + 22), .ref (a + 23), .ref (a + 24), .null, .int 0]) (pc := 85) (dec_at lsk_6 (k := 40) rfl) f_6_45 ha rfl ⟨rfl, rfl⟩ rfl (by simp) rfl ?_
  refine okx_p (lv' := [.ref a, .retAddr 0]) (st' := [.ref a]) (pc := 88) (dec_at lsk_6 (k := 41) rfl) rfl ?_
  refine okx_c (sz := 16) (pc := 89) (dec_at lsk_6 (k := 42) rfl) rfl (by decide) ?_
  refine okx_na2 (z := .inl (fun _ => 0)) (sz := 16) (p := a + 25) (k := 96) (n := 19344) (pc := 91) (dec_at lsk_6 (k := 43) rfl) rfl rfl (by decide) ha hr9 (by omega) rfl rfl (fun hr10 => ?_)
  refine okx_put (fs' := [.int 0, .int 0, .int 0, .ref (a + 1), .ref (a + 15), .ref (a + 17), .ref (a + 19), .ref (a + 20), .ref (a + 21), .ref (a + 22), .ref (a + 23), .ref (a + 24), .ref (a + 25), .int 0]) (pc := 93) (dec_at lsk_6 (k := 44) rfl) f_6_48 ha rfl ⟨rfl, rfl⟩ rfl (by simp) rfl ?_
  exact mk6_b w ha
def blk_8 (a : Nat) : ev_W := .inr (8, [.ref (a + 1), .ref (a + 2), .ref (a + 3), .ref (a + 4), .ref (a + 5), .ref (a + 5), .int 0, .int 0]) :: ((((([] ++ [.inl (0, 1600, .inl (fun _ => 0))]) ++ [.inl (0, 1600, .inl (fun _ => 0))]) ++ [.inl (0, 1600, .inl (fun _ => 0))]) ++ [.inl (2, 1600, .inl (fun _ => 0))]) ++ blk_5 (a + 5))
theorem mk_8 {d : Nat} (w : ev_W) {a : Nat} (ha : w.length = a) : okmx (d + 2) 11 [.ref a] (w ++ [.inr (8, (ev_cty 8).map defaultValue)]) (w ++ blk_8 a) 6 6803 := by
  refine okmx_of me_11 (Nat.le_of_ble_eq_true rfl) ?_
  have hr0 : ([] : ev_W).length = 0 := rfl
  show okx (d + 1) _ _ _ _ _ 0 [.ref a] [] (w ++ (.inr (8, [.null, .null, .null, .null, .null, .null, .int 0, .int 0]) :: [])) (w ++ (.inr (8, [.ref (a + 1), .ref (a + 2), .ref (a + 3), .ref (a + 4), .ref (a + 5), .ref (a + 5), .int 0, .int 0]) :: ((((([] ++ [.inl (0, 1600, .inl (fun _ => 0))]) ++ [.inl (0, 1600, .inl (fun _ => 0))]) ++ [.inl (0, 1600, .inl (fun _ => 0))]) ++ [.inl (2, 1600, .inl (fun _ => 0))]) ++ blk_5 (a + 5)))) 6 6803
  refine okx_p (lv' := [.ref a]) (st' := [.ref a]) (pc := 0) (dec_at lsk_11 (k := 0) rfl) rfl ?_
  refine okx_obj (nn := 0) (pc := 1) (dec_at lsk_11 (k := 1) rfl) m_8_3 (Nat.le_of_ble_eq_true rfl) ?_
  refine okx_p (lv' := [.ref a]) (st' := [.ref a]) (pc := 4) (dec_at lsk_11 (k := 2) rfl) rfl ?_
  refine okx_c (sz := 1600) (pc := 5) (dec_at lsk_11 (k := 3) rfl) rfl (by decide) ?_
  refine okx_na2 (z := .inl (fun _ => 0)) (sz := 1600) (p := a + 1) (k := 5) (n := 5203) (pc := 8) (dec_at lsk_11 (k := 4) rfl) rfl rfl (by decide) ha hr0 (by omega) rfl rfl (fun hr1 => ?_)
  refine okx_put (fs' := [.ref (a + 1), .null, .null, .null, .null, .null, .int 0, .int 0]) (pc := 10) (dec_at lsk_11 (k := 5) rfl) f_8_11 ha rfl ⟨rfl, rfl⟩ rfl (by simp) rfl ?_
  refine okx_p (lv' := [.ref a]) (st' := [.ref a]) (pc := 13) (dec_at lsk_11 (k := 6) rfl) rfl ?_
  refine okx_c (sz := 1600) (pc := 14) (dec_at lsk_11 (k := 7) rfl) rfl (by decide) ?_
  refine okx_na2 (z := .inl (fun _ => 0)) (sz := 1600) (p := a + 2) (k := 4) (n := 3603) (pc := 17) (dec_at lsk_11 (k := 8) rfl) rfl rfl (by decide) ha hr1 (by omega) rfl rfl (fun hr2 => ?_)
  refine okx_put (fs' := [.ref (a + 1), .ref (a + 2), .null, .null, .null, .null, .int 0, .int 0]) (pc := 19) (dec_at lsk_11 (k := 9) rfl) f_8_15 ha rfl ⟨rfl, rfl⟩ rfl (by simp) rfl ?_
  refine okx_p (lv' := [.ref a]) (st' := [.ref a]) (pc := 22) (dec_at lsk_11 (k := 10) rfl) rfl ?_
  refine okx_c (sz := 1600) (pc := 23) (dec_at lsk_11 (k := 11) rfl) rfl (by decide) ?_
  refine okx_na2 (z := .inl (fun _ => 0)) (sz := 1600) (p := a + 3) (k := 3) (n := 2003) (pc := 26) (dec_at lsk_11 (k := 12) rfl) rfl rfl (by decide) ha hr2 (by omega) rfl rfl (fun hr3 => ?_)
  refine okx_put (fs' := [.ref (a + 1), .ref (a + 2), .ref (a + 3), .null, .null, .null, .int 0, .int 0]) (pc := 28) (dec_at lsk_11 (k := 13) rfl) f_8_18 ha rfl ⟨rfl, rfl⟩ rfl (by simp) rfl ?_
  refine okx_p (lv' := [.ref a]) (st' := [.ref a]) (pc := 31) (dec_at lsk_11 (k := 14) rfl) rfl ?_
  refine okx_c (sz := 1600) (pc := 32) (dec_at lsk_11 (k := 15) rfl) rfl (by decide) ?_
  refine okx_na2 (z := .inl (fun _ => 0)) (sz := 1600) (p := a + 4) (k := 2) (n := 403) (pc := 35) (dec_at lsk_11 (k := 16) rfl) rfl rfl (by decide) ha hr3 (by omega) rfl rfl (fun hr4 => ?_)
  refine okx_put (fs' := [.ref (a + 1), .ref (a + 2), .ref (a + 3), .ref (a + 4), .null, .null, .int 0, .int 0]) (pc := 37) (dec_at lsk_11 (k := 17) rfl) f_8_21 ha rfl ⟨rfl, rfl⟩ rfl (by simp) rfl ?_
  refine okx_p (lv' := [.ref a]) (st' := [.ref a]) (pc := 40) (dec_at lsk_11 (k := 18) rfl) rfl ?_
  refine okx_mk2 (blk := blk_5) (p := a + 5) (lc := 2) (kC := 1) (nC := 400) (k := 0) (n := 0) (pc := 41) (dec_at lsk_11 (k := 19) rfl) cls_8_25 (by decide) (dec_at lsk_11 (k := 20) rfl) (dec_at lsk_11 (k := 21) rfl) m_8_27 (Or.inr rfl) (Nat.le_of_ble_eq_true rfl) ha hr4 (by omega) (fun w2 h2 => mk_5 w2 h2) rfl rfl rfl rfl (fun hr5 => ?_)
  refine okx_put (fs' := [.ref (a + 1), .ref (a + 2), .ref (a + 3), .ref (a + 4), .ref (a + 5), .null, .int 0, .int 0]) (pc := 48) (dec_at lsk_11 (k := 22) rfl) f_8_28 ha rfl ⟨rfl, rfl⟩ rfl (by simp) rfl ?_
  refine okx_p (lv' := [.ref a]) (st' := [.ref a]) (pc := 51) (dec_at lsk_11 (k := 23) rfl) rfl ?_
  refine okx_p (lv' := [.ref a]) (st' := [.ref a, .ref a]) (pc := 52) (dec_at lsk_11 (k := 24) rfl) rfl ?_
  refine okx_get (pc := 53) (dec_at lsk_11 (k := 25) rfl) f_8_28 ha rfl ?_
  refine okx_put (fs' := [.ref (a + 1), .ref (a + 2), .ref (a + 3), .ref (a + 4), .ref (a + 5), .ref (a + 5), .int 0, .int 0]) (pc := 56) (dec_at lsk_11 (k := 26) rfl) f_8_32 ha rfl ⟨rfl, rfl⟩ rfl (by simp) rfl ?_
  exact okx_r (pc := 59) (dec_at lsk_11 (k := 27) rfl) rfl
theorem blk_8_len (a : Nat) : (blk_8 a).length = 7 := by simp only [blk_8, List.length_cons, List.length_append, List.length_nil, blk_5_len]
def blk_9 (a : Nat) : ev_W := .inr (9, [.int 0, .ref (a + 1), .ref (a + 2), .ref (a + 11), .ref (a + 13), .ref (a + 14), .ref (a + 15), .ref (a + 16), .int 0, .int 0, .ref (a + 17), .ref (a + 18)]) :: ((((((((([] ++ [.inl (1, 400, .inr (.inl (fun _ => 0)))]) ++ blk_2 (a + 2)) ++ blk_5 (a + 11)) ++ [.inl (1, 7, .inr (.inl (fun _ => 0)))]) ++ [.inl (1, 400, .inr (.inl (fun _ => 0)))]) ++ [.inl (0, 400, .inl (fun _ => 0))]) ++ [.inl (2, 400, .inl (fun _ => 0))]) ++ [.inl (1, 40, .inr (.inl (fun _ => 0)))]) ++ [.inl (1, 40, .inr (.inl (fun _ => 0)))])
theorem mk_9 {d : Nat} (w : ev_W) {a : Nat} (ha : w.length = a) : okmx (d + 2) 12 [.ref a] (w ++ [.inr (9, (ev_cty 9).map defaultValue)]) (w ++ blk_9 a) 18 2393 := by
  refine okmx_of me_12 (Nat.le_of_ble_eq_true rfl) ?_
  have hr0 : ([] : ev_W).length = 0 := rfl
  show okx (d + 1) _ _ _ _ _ 0 [.ref a] [] (w ++ (.inr (9, [.int 0, .null, .null, .null, .null, .null, .null, .null, .int 0, .int 0, .null, .null]) :: [])) (w ++ (.inr (9, [.int 0, .ref (a + 1), .ref (a + 2), .ref (a + 11), .ref (a + 13), .ref (a + 14), .ref (a + 15), .ref (a + 16), .int 0, .int 0, .ref (a + 17), .ref (a + 18)]) :: ((((((((([] ++ [.inl (1, 400, .inr (.inl (fun _ => 0)))]) ++ blk_2 (a + 2)) ++ blk_5 (a + 11)) ++ [.inl (1, 7, .inr (.inl (fun _ => 0)))]) ++ [.inl (1, 400, .inr (.inl (fun _ => 0)))]) ++ [.inl (0, 400, .inl (fun _ => 0))]) ++ [.inl (2, 400, .inl (fun _ => 0))]) ++ [.inl (1, 40, .inr (.inl (fun _ => 0)))]) ++ [.inl (1, 40, .inr (.inl (fun _ => 0)))]))) 18 2393
  refine okx_p (lv' := [.ref a]) (st' := [.ref a]) (pc := 0) (dec_at lsk_12 (k := 0) rfl) rfl ?_
  refine okx_obj (nn := 0) (pc := 1) (dec_at lsk_12 (k := 1) rfl) m_9_3 (Nat.le_of_ble_eq_true rfl) ?_
  refine okx_p (lv' := [.ref a]) (st' := [.ref a]) (pc := 4) (dec_at lsk_12 (k := 2) rfl) rfl ?_
  refine okx_c (sz := 400) (pc := 5) (dec_at lsk_12 (k := 3) rfl) rfl (by decide) ?_
  refine okx_na2 (z := .inr (.inl (fun _ => 0))) (sz := 400) (p := a + 1) (k := 17) (n := 1993) (pc := 8) (dec_at lsk_12 (k := 4) rfl) rfl rfl (by decide) ha hr0 (by omega) rfl rfl (fun hr1 => ?_)
  refine okx_put (fs' := [.int 0, .ref (a + 1), .null, .null, .null, .null, .null, .null, .int 0, .int 0, .null, .null]) (pc := 10) (dec_at lsk_12 (k := 5) rfl) f_9_11 ha rfl ⟨rfl, rfl⟩ rfl (by simp) rfl ?_
  refine okx_p (lv' := [.ref a]) (st' := [.ref a]) (pc := 13) (dec_at lsk_12 (k := 6) rfl) rfl ?_
  refine okx_mk2 (blk := blk_2) (p := a + 2) (lc := 9) (kC := 8) (nC := 290) (k := 8) (n := 1690) (pc := 14) (dec_at lsk_12 (k := 7) rfl) cls_9_15 (by decide) (dec_at lsk_12 (k := 8) rfl) (dec_at lsk_12 (k := 9) rfl) m_9_17 (Or.inr rfl) (Nat.le_of_ble_eq_true rfl) ha hr1 (by omega) (fun w2 h2 => mk_2 w2 h2) rfl rfl rfl rfl (fun hr2 => ?_)
  refine okx_put (fs' := [.int 0, .ref (a + 1), .ref (a + 2), .null, .null, .null, .null, .null, .int 0, .int 0, .null, .null]) (pc := 21) (dec_at lsk_12 (k := 10) rfl) f_9_18 ha rfl ⟨rfl, rfl⟩ rfl (by simp) rfl ?_
  refine okx_p (lv' := [.ref a]) (st' := [.ref a]) (pc := 24) (dec_at lsk_12 (k := 11) rfl) rfl ?_
  refine okx_mk2 (blk := blk_5) (p := a + 11) (lc := 2) (kC := 1) (nC := 400) (k := 6) (n := 1287) (pc := 25) (dec_at lsk_12 (k := 12) rfl) cls_9_22 (by decide) (dec_at lsk_12 (k := 13) rfl) (dec_at lsk_12 (k := 14) rfl) m_9_24 (Or.inr rfl) (Nat.le_of_ble_eq_true rfl) ha hr2 (by omega) (fun w2 h2 => mk_5 w2 h2) rfl rfl rfl rfl (fun hr3 => ?_)
  refine okx_put (fs' := [.int 0, .ref (a + 1), .ref (a + 2), .ref (a + 11), .null, .null, .null, .null, .int 0, .int 0, .null, .null]) (pc := 32) (dec_at lsk_12 (k := 15) rfl) f_9_25 ha rfl ⟨rfl, rfl⟩ rfl (by simp) rfl ?_
  refine okx_p (lv' := [.ref a]) (st' := [.ref a]) (pc := 35) (dec_at lsk_12 (k := 16) rfl) rfl ?_
  refine okx_c (sz := 7) (pc := 36) (dec_at lsk_12 (k := 17) rfl) rfl (by decide) ?_
  refine okx_na2 (z := .inr (.inl (fun _ => 0))) (sz := 7) (p := a + 13) (k := 5) (n := 1280) (pc := 38) (dec_at lsk_12 (k := 18) rfl) rfl rfl (by decide) ha hr3 (by omega) rfl rfl (fun hr4 => ?_)
  refine okx_put (fs' := [.int 0, .ref (a + 1), .ref (a + 2), .ref (a + 11), .ref (a + 13), .null, .null, .null, .int 0, .int 0, .null, .null]) (pc := 40) (dec_at lsk_12 (k := 19) rfl) f_9_29 ha rfl ⟨rfl, rfl⟩ rfl (by simp) rfl ?_
  refine okx_p (lv' := [.ref a]) (st' := [.ref a]) (pc := 43) (dec_at lsk_12 (k := 20) rfl) rfl ?_
  refine okx_c (sz := 400) (pc := 44) (dec_at lsk_12 (k := 21) rfl) rfl (by decide) ?_
  refine okx_na2 (z := .inr (.inl (fun _ => 0))) (sz := 400) (p := a + 14) (k := 4) (n := 880) (pc := 47) (dec_at lsk_12 (k := 22) rfl) rfl rfl (by decide) ha hr4 (by omega) rfl rfl (fun hr5 => ?_)
  refine okx_put (fs' := [.int 0, .ref (a + 1), .ref (a + 2), .ref (a + 11), .ref (a + 13), .ref (a + 14), .null, .null, .int 0, .int 0, .null, .null]) (pc := 49) (dec_at lsk_12 (k := 23) rfl) f_9_32 ha rfl ⟨rfl, rfl⟩ rfl (by simp) rfl ?_
  refine okx_p (lv' := [.ref a]) (st' := [.ref a]) (pc := 52) (dec_at lsk_12 (k := 24) rfl) rfl ?_
  refine okx_c (sz := 400) (pc := 53) (dec_at lsk_12 (k := 25) rfl) rfl (by decide) ?_
  refine okx_na2 (z := .inl (fun _ => 0)) (sz := 400) (p := a + 15) (k := 3) (n := 480) (pc := 56) (dec_at lsk_12 (k := 26) rfl) rfl rfl (by decide) ha hr5 (by omega) rfl rfl (fun hr6 => ?_)
  refine okx_put (fs' := [.int 0, .ref (a + 1), .ref (a + 2), .ref (a + 11), .ref (a + 13), .ref (a + 14), .ref (a + 15), .null, .int 0, .int 0, .null, .null]) (pc := 58) (dec_at lsk_12 (k := 27) rfl) f_9_35 ha rfl ⟨rfl, rfl⟩ rfl (by simp) rfl ?_
  refine okx_p (lv' := [.ref a]) (st' := [.ref a]) (pc := 61) (dec_at lsk_12 (k := 28) rfl) rfl ?_
  refine okx_c (sz := 400) (pc := 62) (dec_at lsk_12 (k := 29) rfl) rfl (by decide) ?_
  refine okx_na2 (z := .inl (fun _ => 0)) (sz := 400) (p := a + 16) (k := 2) (n := 80) (pc := 65) (dec_at lsk_12 (k := 30) rfl) rfl rfl (by decide) ha hr6 (by omega) rfl rfl (fun hr7 => ?_)
  refine okx_put (fs' := [.int 0, .ref (a + 1), .ref (a + 2), .ref (a + 11), .ref (a + 13), .ref (a + 14), .ref (a + 15), .ref (a + 16), .int 0, .int 0, .null, .null]) (pc := 67) (dec_at lsk_12 (k := 31) rfl) f_9_39 ha rfl ⟨rfl, rfl⟩ rfl (by simp) rfl ?_
  refine okx_p (lv' := [.ref a]) (st' := [.ref a]) (pc := 70) (dec_at lsk_12 (k := 32) rfl) rfl ?_
  refine okx_c (sz := 40) (pc := 71) (dec_at lsk_12 (k := 33) rfl) rfl (by decide) ?_
  refine okx_na2 (z := .inr (.inl (fun _ => 0))) (sz := 40) (p := a + 17) (k := 1) (n := 40) (pc := 73) (dec_at lsk_12 (k := 34) rfl) rfl rfl (by decide) ha hr7 (by omega) rfl rfl (fun hr8 => ?_)
  refine okx_put (fs' := [.int 0, .ref (a + 1), .ref (a + 2), .ref (a + 11), .ref (a + 13), .ref (a + 14), .ref (a + 15), .ref (a + 16), .int 0, .int 0, .ref (a + 17), .null]) (pc := 75) (dec_at lsk_12 (k := 35) rfl) f_9_43 ha rfl ⟨rfl, rfl⟩ rfl (by simp) rfl ?_
  refine okx_p (lv' := [.ref a]) (st' := [.ref a]) (pc := 78) (dec_at lsk_12 (k := 36) rfl) rfl ?_
  refine okx_c (sz := 40) (pc := 79) (dec_at lsk_12 (k := 37) rfl) rfl (by decide) ?_
  refine okx_na2 (z := .inr (.inl (fun _ => 0))) (sz := 40) (p := a + 18) (k := 0) (n := 0) (pc := 81) (dec_at lsk_12 (k := 38) rfl) rfl rfl (by decide) ha hr8 (by omega) rfl rfl (fun hr9 => ?_)
  refine okx_put (fs' := [.int 0, .ref (a + 1), .ref (a + 2), .ref (a + 11), .ref (a + 13), .ref (a + 14), .ref (a + 15), .ref (a + 16), .int 0, .int 0, .ref (a + 17), .ref (a + 18)]) (pc := 83) (dec_at lsk_12 (k := 39) rfl) f_9_46 ha rfl ⟨rfl, rfl⟩ rfl (by simp) rfl ?_
  exact okx_r (pc := 86) (dec_at lsk_12 (k := 40) rfl) rfl
theorem blk_9_len (a : Nat) : (blk_9 a).length = 19 := by simp only [blk_9, List.length_cons, List.length_append, List.length_nil, blk_2_len, blk_5_len]
def blk_11 (a : Nat) : ev_W := .inr (11, [.ref (a + 1), .ref (a + 10), iV 1, .int 0, .ref (a + 12), .ref (a + 13), .ref (a + 14), .int 0, .ref (a + 15), .ref (a + 16), .ref (a + 17), .int 0, .ref (a + 18), .ref (a + 19), .ref (a + 20), .ref (a + 21), .ref (a + 22)]) :: ((((((((((((([] ++ blk_2 (a + 1)) ++ blk_5 (a + 10)) ++ [.inl (1, 16000, .inr (.inl (fun _ => 0)))]) ++ [.inl (0, 16000, .inl (fun _ => 0))]) ++ [.inl (0, 16000, .inl (fun _ => 0))]) ++ [.inl (1, 400, .inr (.inl (fun _ => 0)))]) ++ [.inl (0, 16000, .inl (fun _ => 0))]) ++ [.inl (0, 16000, .inl (fun _ => 0))]) ++ [.inl (1, 240000, .inr (.inl (fun _ => 0)))]) ++ [.inl (0, 240000, .inl (fun _ => 0))]) ++ [.inl (0, 30, .inl (fun _ => 0))]) ++ [.inl (1, 400, .inr (.inl (fun _ => 0)))]) ++ [.inl (1, 7, .inr (.inl (fun _ => 0)))])
theorem mk_11 {d : Nat} (w : ev_W) {a : Nat} (ha : w.length = a) : okmx (d + 2) 14 [.ref a] (w ++ [.inr (11, (ev_cty 11).map defaultValue)]) (w ++ blk_11 a) 22 561543 := by
  refine okmx_of me_14 (Nat.le_of_ble_eq_true rfl) ?_
  have hr0 : ([] : ev_W).length = 0 := rfl
  show okx (d + 1) _ _ _ _ _ 0 [.ref a] [] (w ++ (.inr (11, [.null, .null, .int 0, .int 0, .null, .null, .null, .int 0, .null, .null, .null, .int 0, .null, .null, .null, .null, .null]) :: [])) (w ++ (.inr (11, [.ref (a + 1), .ref (a + 10), iV 1, .int 0, .ref (a + 12), .ref (a + 13), .ref (a + 14), .int 0, .ref (a + 15), .ref (a + 16), .ref (a + 17), .int 0, .ref (a + 18), .ref (a + 19), .ref (a + 20), .ref (a + 21), .ref (a + 22)]) :: ((((((((((((([] ++ blk_2 (a + 1)) ++ blk_5 (a + 10)) ++ [.inl (1, 16000, .inr (.inl (fun _ => 0)))]) ++ [.inl (0, 16000, .inl (fun _ => 0))]) ++ [.inl (0, 16000, .inl (fun _ => 0))]) ++ [.inl (1, 400, .inr (.inl (fun _ => 0)))]) ++ [.inl (0, 16000, .inl (fun _ => 0))]) ++ [.inl (0, 16000, .inl (fun _ => 0))]) ++ [.inl (1, 240000, .inr (.inl (fun _ => 0)))]) ++ [.inl (0, 240000, .inl (fun _ => 0))]) ++ [.inl (0, 30, .inl (fun _ => 0))]) ++ [.inl (1, 400, .inr (.inl (fun _ => 0)))]) ++ [.inl (1, 7, .inr (.inl (fun _ => 0)))]))) 22 561543
  refine okx_p (lv' := [.ref a]) (st' := [.ref a]) (pc := 0) (dec_at lsk_14 (k := 0) rfl) rfl ?_
  refine okx_obj (nn := 0) (pc := 1) (dec_at lsk_14 (k := 1) rfl) m_11_3 (Nat.le_of_ble_eq_true rfl) ?_
  refine okx_p (lv' := [.ref a]) (st' := [.ref a]) (pc := 4) (dec_at lsk_14 (k := 2) rfl) rfl ?_
  refine okx_mk2 (blk := blk_2) (p := a + 1) (lc := 9) (kC := 8) (nC := 290) (k := 13) (n := 561240) (pc := 5) (dec_at lsk_14 (k := 3) rfl) cls_11_9 (by decide) (dec_at lsk_14 (k := 4) rfl) (dec_at lsk_14 (k := 5) rfl) m_11_11 (Or.inr rfl) (Nat.le_of_ble_eq_true rfl) ha hr0 (by omega) (fun w2 h2 => mk_2 w2 h2) rfl rfl rfl rfl (fun hr1 => ?_)
  refine okx_put (fs' := [.ref (a + 1), .null, .int 0, .int 0, .null, .null, .null, .int 0, .null, .null, .null, .int 0, .null, .null, .null, .null, .null]) (pc := 12) (dec_at lsk_14 (k := 6) rfl) f_11_12 ha rfl ⟨rfl, rfl⟩ rfl (by simp) rfl ?_
  refine okx_p (lv' := [.ref a]) (st' := [.ref a]) (pc := 15) (dec_at lsk_14 (k := 7) rfl) rfl ?_
  refine okx_mk2 (blk := blk_5) (p := a + 10) (lc := 2) (kC := 1) (nC := 400) (k := 11) (n := 560837) (pc := 16) (dec_at lsk_14 (k := 8) rfl) cls_11_18 (by decide) (dec_at lsk_14 (k := 9) rfl) (dec_at lsk_14 (k := 10) rfl) m_11_20 (Or.inr rfl) (Nat.le_of_ble_eq_true rfl) ha hr1 (by omega) (fun w2 h2 => mk_5 w2 h2) rfl rfl rfl rfl (fun hr2 => ?_)
  refine okx_put (fs' := [.ref (a + 1), .ref (a + 10), .int 0, .int 0, .null, .null, .null, .int 0, .null, .null, .null, .int 0, .null, .null, .null, .null, .null]) (pc := 23) (dec_at lsk_14 (k := 11) rfl) f_11_21 ha rfl ⟨rfl, rfl⟩ rfl (by simp) rfl ?_
  refine okx_p (lv' := [.ref a]) (st' := [.ref a]) (pc := 26) (dec_at lsk_14 (k := 12) rfl) rfl ?_
  refine okx_p (lv' := [.ref a]) (st' := [iV 1, .ref a]) (pc := 27) (dec_at lsk_14 (k := 13) rfl) rfl ?_
  refine okx_put (fs' := [.ref (a + 1), .ref (a + 10), iV 1, .int 0, .null, .null, .null, .int 0, .null, .null, .null, .int 0, .null, .null, .null, .null, .null]) (pc := 28) (dec_at lsk_14 (k := 14) rfl) f_11_25 ha rfl ⟨rfl, rfl⟩ rfl (by simp) rfl ?_
  refine okx_p (lv' := [.ref a]) (st' := [.ref a]) (pc := 31) (dec_at lsk_14 (k := 15) rfl) rfl ?_
  refine okx_c (sz := 16000) (pc := 32) (dec_at lsk_14 (k := 16) rfl) rfl (by decide) ?_
  refine okx_na2 (z := .inr (.inl (fun _ => 0))) (sz := 16000) (p := a + 12) (k := 10) (n := 544837) (pc := 35) (dec_at lsk_14 (k := 17) rfl) rfl rfl (by decide) ha hr2 (by omega) rfl rfl (fun hr3 => ?_)
  refine okx_put (fs' := [.ref (a + 1), .ref (a + 10), iV 1, .int 0, .ref (a + 12), .null, .null, .int 0, .null, .null, .null, .int 0, .null, .null, .null, .null, .null]) (pc := 37) (dec_at lsk_14 (k := 18) rfl) f_11_29 ha rfl ⟨rfl, rfl⟩ rfl (by simp) rfl ?_
  refine okx_p (lv' := [.ref a]) (st' := [.ref a]) (pc := 40) (dec_at lsk_14 (k := 19) rfl) rfl ?_
  refine okx_c (sz := 16000) (pc := 41) (dec_at lsk_14 (k := 20) rfl) rfl (by decide) ?_
  refine okx_na2 (z := .inl (fun _ => 0)) (sz := 16000) (p := a + 13) (k := 9) (n := 528837) (pc := 44) (dec_at lsk_14 (k := 21) rfl) rfl rfl (by decide) ha hr3 (by omega) rfl rfl (fun hr4 => ?_)
  refine okx_put (fs' := [.ref (a + 1), .ref (a + 10), iV 1, .int 0, .ref (a + 12), .ref (a + 13), .null, .int 0, .null, .null, .null, .int 0, .null, .null, .null, .null, .null]) (pc := 46) (dec_at lsk_14 (k := 22) rfl) f_11_33 ha rfl ⟨rfl, rfl⟩ rfl (by simp) rfl ?_
  refine okx_p (lv' := [.ref a]) (st' := [.ref a]) (pc := 49) (dec_at lsk_14 (k := 23) rfl) rfl ?_
  refine okx_c (sz := 16000) (pc := 50) (dec_at lsk_14 (k := 24) rfl) rfl (by decide) ?_
  refine okx_na2 (z := .inl (fun _ => 0)) (sz := 16000) (p := a + 14) (k := 8) (n := 512837) (pc := 53) (dec_at lsk_14 (k := 25) rfl) rfl rfl (by decide) ha hr4 (by omega) rfl rfl (fun hr5 => ?_)
  refine okx_put (fs' := [.ref (a + 1), .ref (a + 10), iV 1, .int 0, .ref (a + 12), .ref (a + 13), .ref (a + 14), .int 0, .null, .null, .null, .int 0, .null, .null, .null, .null, .null]) (pc := 55) (dec_at lsk_14 (k := 26) rfl) f_11_37 ha rfl ⟨rfl, rfl⟩ rfl (by simp) rfl ?_
  refine okx_p (lv' := [.ref a]) (st' := [.ref a]) (pc := 58) (dec_at lsk_14 (k := 27) rfl) rfl ?_
  refine okx_c (sz := 400) (pc := 59) (dec_at lsk_14 (k := 28) rfl) rfl (by decide) ?_
  refine okx_na2 (z := .inr (.inl (fun _ => 0))) (sz := 400) (p := a + 15) (k := 7) (n := 512437) (pc := 62) (dec_at lsk_14 (k := 29) rfl) rfl rfl (by decide) ha hr5 (by omega) rfl rfl (fun hr6 => ?_)
  refine okx_put (fs' := [.ref (a + 1), .ref (a + 10), iV 1, .int 0, .ref (a + 12), .ref (a + 13), .ref (a + 14), .int 0, .ref (a + 15), .null, .null, .int 0, .null, .null, .null, .null, .null]) (pc := 64) (dec_at lsk_14 (k := 30) rfl) f_11_40 ha rfl ⟨rfl, rfl⟩ rfl (by simp) rfl ?_
  refine okx_p (lv' := [.ref a]) (st' := [.ref a]) (pc := 67) (dec_at lsk_14 (k := 31) rfl) rfl ?_
  refine okx_c (sz := 16000) (pc := 68) (dec_at lsk_14 (k := 32) rfl) rfl (by decide) ?_
  refine okx_na2 (z := .inl (fun _ => 0)) (sz := 16000) (p := a + 16) (k := 6) (n := 496437) (pc := 71) (dec_at lsk_14 (k := 33) rfl) rfl rfl (by decide) ha hr6 (by omega) rfl rfl (fun hr7 => ?_)
  refine okx_put (fs' := [.ref (a + 1), .ref (a + 10), iV 1, .int 0, .ref (a + 12), .ref (a + 13), .ref (a + 14), .int 0, .ref (a + 15), .ref (a + 16), .null, .int 0, .null, .null, .null, .null, .null]) (pc := 73) (dec_at lsk_14 (k := 34) rfl) f_11_43 ha rfl ⟨rfl, rfl⟩ rfl (by simp) rfl ?_
  refine okx_p (lv' := [.ref a]) (st' := [.ref a]) (pc := 76) (dec_at lsk_14 (k := 35) rfl) rfl ?_
  refine okx_c (sz := 16000) (pc := 77) (dec_at lsk_14 (k := 36) rfl) rfl (by decide) ?_
  refine okx_na2 (z := .inl (fun _ => 0)) (sz := 16000) (p := a + 17) (k := 5) (n := 480437) (pc := 80) (dec_at lsk_14 (k := 37) rfl) rfl rfl (by decide) ha hr7 (by omega) rfl rfl (fun hr8 => ?_)
  refine okx_put (fs' := [.ref (a + 1), .ref (a + 10), iV 1, .int 0, .ref (a + 12), .ref (a + 13), .ref (a + 14), .int 0, .ref (a + 15), .ref (a + 16), .ref (a + 17), .int 0, .null, .null, .null, .null, .null]) (pc := 82) (dec_at lsk_14 (k := 38) rfl) f_11_46 ha rfl ⟨rfl, rfl⟩ rfl (by simp) rfl ?_
  refine okx_p (lv' := [.ref a]) (st' := [.ref a]) (pc := 85) (dec_at lsk_14 (k := 39) rfl) rfl ?_
  refine okx_ldc (sz := 240000) (pc := 86) (dec_at lsk_14 (k := 40) rfl) con_11_49 (by decide) ?_
  refine okx_na2 (z := .inr (.inl (fun _ => 0))) (sz := 240000) (p := a + 18) (k := 4) (n := 240437) (pc := 88) (dec_at lsk_14 (k := 41) rfl) rfl rfl (by decide) ha hr8 (by omega) rfl rfl (fun hr9 => ?_)
  refine okx_put (fs' := [.ref (a + 1), .ref (a + 10), iV 1, .int 0, .ref (a + 12), .ref (a + 13), .ref (a + 14), .int 0, .ref (a + 15), .ref (a + 16), .ref (a + 17), .int 0, .ref (a + 18), .null, .null, .null, .null]) (pc := 90) (dec_at lsk_14 (k := 42) rfl) f_11_50 ha rfl ⟨rfl, rfl⟩ rfl (by simp) rfl ?_
  refine okx_p (lv' := [.ref a]) (st' := [.ref a]) (pc := 93) (dec_at lsk_14 (k := 43) rfl) rfl ?_
  refine okx_ldc (sz := 240000) (pc := 94) (dec_at lsk_14 (k := 44) rfl) con_11_49 (by decide) ?_
  refine okx_na2 (z := .inl (fun _ => 0)) (sz := 240000) (p := a + 19) (k := 3) (n := 437) (pc := 96) (dec_at lsk_14 (k := 45) rfl) rfl rfl (by decide) ha hr9 (by omega) rfl rfl (fun hr10 => ?_)
  refine okx_put (fs' := [.ref (a + 1), .ref (a + 10), iV 1, .int 0, .ref (a + 12), .ref (a + 13), .ref (a + 14), .int 0, .ref (a + 15), .ref (a + 16), .ref (a + 17), .int 0, .ref (a + 18), .ref (a + 19), .null, .null, .null]) (pc := 98) (dec_at lsk_14 (k := 46) rfl) f_11_53 ha rfl ⟨rfl, rfl⟩ rfl (by simp) rfl ?_
  refine okx_p (lv' := [.ref a]) (st' := [.ref a]) (pc := 101) (dec_at lsk_14 (k := 47) rfl) rfl ?_
  refine okx_c (sz := 30) (pc := 102) (dec_at lsk_14 (k := 48) rfl) rfl (by decide) ?_
  refine okx_na2 (z := .inl (fun _ => 0)) (sz := 30) (p := a + 20) (k := 2) (n := 407) (pc := 104) (dec_at lsk_14 (k := 49) rfl) rfl rfl (by decide) ha hr10 (by omega) rfl rfl (fun hr11 => ?_)
  refine okx_put (fs' := [.ref (a + 1), .ref (a + 10), iV 1, .int 0, .ref (a + 12), .ref (a + 13), .ref (a + 14), .int 0, .ref (a + 15), .ref (a + 16), .ref (a + 17), .int 0, .ref (a + 18), .ref (a + 19), .ref (a + 20), .null, .null]) (pc := 106) (dec_at lsk_14 (k := 50) rfl) f_11_56 ha rfl ⟨rfl, rfl⟩ rfl (by simp) rfl ?_
  refine okx_p (lv' := [.ref a]) (st' := [.ref a]) (pc := 109) (dec_at lsk_14 (k := 51) rfl) rfl ?_
  refine okx_c (sz := 400) (pc := 110) (dec_at lsk_14 (k := 52) rfl) rfl (by decide) ?_
  refine okx_na2 (z := .inr (.inl (fun _ => 0))) (sz := 400) (p := a + 21) (k := 1) (n := 7) (pc := 113) (dec_at lsk_14 (k := 53) rfl) rfl rfl (by decide) ha hr11 (by omega) rfl rfl (fun hr12 => ?_)
  refine okx_put (fs' := [.ref (a + 1), .ref (a + 10), iV 1, .int 0, .ref (a + 12), .ref (a + 13), .ref (a + 14), .int 0, .ref (a + 15), .ref (a + 16), .ref (a + 17), .int 0, .ref (a + 18), .ref (a + 19), .ref (a + 20), .ref (a + 21), .null]) (pc := 115) (dec_at lsk_14 (k := 54) rfl) f_11_59 ha rfl ⟨rfl, rfl⟩ rfl (by simp) rfl ?_
  refine okx_p (lv' := [.ref a]) (st' := [.ref a]) (pc := 118) (dec_at lsk_14 (k := 55) rfl) rfl ?_
  refine okx_c (sz := 7) (pc := 119) (dec_at lsk_14 (k := 56) rfl) rfl (by decide) ?_
  refine okx_na2 (z := .inr (.inl (fun _ => 0))) (sz := 7) (p := a + 22) (k := 0) (n := 0) (pc := 121) (dec_at lsk_14 (k := 57) rfl) rfl rfl (by decide) ha hr12 (by omega) rfl rfl (fun hr13 => ?_)
  refine okx_put (fs' := [.ref (a + 1), .ref (a + 10), iV 1, .int 0, .ref (a + 12), .ref (a + 13), .ref (a + 14), .int 0, .ref (a + 15), .ref (a + 16), .ref (a + 17), .int 0, .ref (a + 18), .ref (a + 19), .ref (a + 20), .ref (a + 21), .ref (a + 22)]) (pc := 123) (dec_at lsk_14 (k := 58) rfl) f_11_62 ha rfl ⟨rfl, rfl⟩ rfl (by simp) rfl ?_
  exact okx_r (pc := 126) (dec_at lsk_14 (k := 59) rfl) rfl
theorem blk_11_len (a : Nat) : (blk_11 a).length = 23 := by simp only [blk_11, List.length_cons, List.length_append, List.length_nil, blk_2_len, blk_5_len]
def blk_10 (a : Nat) : ev_W := .inr (10, [.int 0, .ref (a + 1), .ref (a + 24), .ref (a + 33), .ref (a + 35), .ref (a + 36), .ref (a + 37), .ref (a + 38), .ref (a + 39), .long 0, .long 0]) :: (((((((([] ++ blk_11 (a + 1)) ++ blk_2 (a + 24)) ++ blk_5 (a + 33)) ++ [.inl (0, 16000, .inl (fun _ => 0))]) ++ [.inl (0, 16000, .inl (fun _ => 0))]) ++ [.inl (1, 16000, .inr (.inl (fun _ => 0)))]) ++ [.inl (1, 7, .inr (.inl (fun _ => 0)))]) ++ [.inl (1, 280, .inr (.inl (fun _ => 0)))])
theorem mk_10 {d : Nat} (w : ev_W) {a : Nat} (ha : w.length = a) : okmx (d + 3) 13 [.ref a] (w ++ [.inr (10, (ev_cty 10).map defaultValue)]) (w ++ blk_10 a) 39 610553 := by
  refine okmx_of me_13 (Nat.le_of_ble_eq_true rfl) ?_
  have hr0 : ([] : ev_W).length = 0 := rfl
  show okx (d + 2) _ _ _ _ _ 0 [.ref a] [] (w ++ (.inr (10, [.int 0, .null, .null, .null, .null, .null, .null, .null, .null, .long 0, .long 0]) :: [])) (w ++ (.inr (10, [.int 0, .ref (a + 1), .ref (a + 24), .ref (a + 33), .ref (a + 35), .ref (a + 36), .ref (a + 37), .ref (a + 38), .ref (a + 39), .long 0, .long 0]) :: (((((((([] ++ blk_11 (a + 1)) ++ blk_2 (a + 24)) ++ blk_5 (a + 33)) ++ [.inl (0, 16000, .inl (fun _ => 0))]) ++ [.inl (0, 16000, .inl (fun _ => 0))]) ++ [.inl (1, 16000, .inr (.inl (fun _ => 0)))]) ++ [.inl (1, 7, .inr (.inl (fun _ => 0)))]) ++ [.inl (1, 280, .inr (.inl (fun _ => 0)))]))) 39 610553
  refine okx_p (lv' := [.ref a]) (st' := [.ref a]) (pc := 0) (dec_at lsk_13 (k := 0) rfl) rfl ?_
  refine okx_obj (nn := 0) (pc := 1) (dec_at lsk_13 (k := 1) rfl) m_10_3 (Nat.le_of_ble_eq_true rfl) ?_
  refine okx_p (lv' := [.ref a]) (st' := [.ref a]) (pc := 4) (dec_at lsk_13 (k := 2) rfl) rfl ?_
  refine okx_mk2 (blk := blk_11) (p := a + 1) (lc := 23) (kC := 22) (nC := 561543) (k := 16) (n := 48993) (pc := 5) (dec_at lsk_13 (k := 3) rfl) cls_10_9 (by decide) (dec_at lsk_13 (k := 4) rfl) (dec_at lsk_13 (k := 5) rfl) m_10_11 (Or.inr rfl) (Nat.le_of_ble_eq_true rfl) ha hr0 (by omega) (fun w2 h2 => mk_11 w2 h2) (blk_11_len _) rfl rfl rfl (fun hr1 => ?_)
  refine okx_put (fs' := [.int 0, .ref (a + 1), .null, .null, .null, .null, .null, .null, .null, .long 0, .long 0]) (pc := 12) (dec_at lsk_13 (k := 6) rfl) f_10_12 ha rfl ⟨rfl, rfl⟩ rfl (by simp) rfl ?_
  refine okx_p (lv' := [.ref a]) (st' := [.ref a]) (pc := 15) (dec_at lsk_13 (k := 7) rfl) rfl ?_
  refine okx_mk2 (blk := blk_2) (p := a + 24) (lc := 9) (kC := 8) (nC := 290) (k := 7) (n := 48690) (pc := 16) (dec_at lsk_13 (k := 8) rfl) cls_10_18 (by decide) (dec_at lsk_13 (k := 9) rfl) (dec_at lsk_13 (k := 10) rfl) m_10_20 (Or.inr rfl) (Nat.le_of_ble_eq_true rfl) ha hr1 (by omega) (fun w2 h2 => mk_2 w2 h2) rfl rfl rfl rfl (fun hr2 => ?_)
  refine okx_put (fs' := [.int 0, .ref (a + 1), .ref (a + 24), .null, .null, .null, .null, .null, .null, .long 0, .long 0]) (pc := 23) (dec_at lsk_13 (k := 11) rfl) f_10_21 ha rfl ⟨rfl, rfl⟩ rfl (by simp) rfl ?_
  refine okx_p (lv' := [.ref a]) (st' := [.ref a]) (pc := 26) (dec_at lsk_13 (k := 12) rfl) rfl ?_
  refine okx_mk2 (blk := blk_5) (p := a + 33) (lc := 2) (kC := 1) (nC := 400) (k := 5) (n := 48287) (pc := 27) (dec_at lsk_13 (k := 13) rfl) cls_10_25 (by decide) (dec_at lsk_13 (k := 14) rfl) (dec_at lsk_13 (k := 15) rfl) m_10_27 (Or.inr rfl) (Nat.le_of_ble_eq_true rfl) ha hr2 (by omega) (fun w2 h2 => mk_5 w2 h2) rfl rfl rfl rfl (fun hr3 => ?_)
  refine okx_put (fs' := [.int 0, .ref (a + 1), .ref (a + 24), .ref (a + 33), .null, .null, .null, .null, .null, .long 0, .long 0]) (pc := 34) (dec_at lsk_13 (k := 16) rfl) f_10_28 ha rfl ⟨rfl, rfl⟩ rfl (by simp) rfl ?_
  refine okx_p (lv' := [.ref a]) (st' := [.ref a]) (pc := 37) (dec_at lsk_13 (k := 17) rfl) rfl ?_
  refine okx_c (sz := 16000) (pc := 38) (dec_at lsk_13 (k := 18) rfl) rfl (by decide) ?_
  refine okx_na2 (z := .inl (fun _ => 0)) (sz := 16000) (p := a + 35) (k := 4) (n := 32287) (pc := 41) (dec_at lsk_13 (k := 19) rfl) rfl rfl (by decide) ha hr3 (by omega) rfl rfl (fun hr4 => ?_)
  refine okx_put (fs' := [.int 0, .ref (a + 1), .ref (a + 24), .ref (a + 33), .ref (a + 35), .null, .null, .null, .null, .long 0, .long 0]) (pc := 43) (dec_at lsk_13 (k := 20) rfl) f_10_32 ha rfl ⟨rfl, rfl⟩ rfl (by simp) rfl ?_
  refine okx_p (lv' := [.ref a]) (st' := [.ref a]) (pc := 46) (dec_at lsk_13 (k := 21) rfl) rfl ?_
  refine okx_c (sz := 16000) (pc := 47) (dec_at lsk_13 (k := 22) rfl) rfl (by decide) ?_
  refine okx_na2 (z := .inl (fun _ => 0)) (sz := 16000) (p := a + 36) (k := 3) (n := 16287) (pc := 50) (dec_at lsk_13 (k := 23) rfl) rfl rfl (by decide) ha hr4 (by omega) rfl rfl (fun hr5 => ?_)
  refine okx_put (fs' := [.int 0, .ref (a + 1), .ref (a + 24), .ref (a + 33), .ref (a + 35), .ref (a + 36), .null, .null, .null, .long 0, .long 0]) (pc := 52) (dec_at lsk_13 (k := 24) rfl) f_10_36 ha rfl ⟨rfl, rfl⟩ rfl (by simp) rfl ?_
  refine okx_p (lv' := [.ref a]) (st' := [.ref a]) (pc := 55) (dec_at lsk_13 (k := 25) rfl) rfl ?_
  refine okx_c (sz := 16000) (pc := 56) (dec_at lsk_13 (k := 26) rfl) rfl (by decide) ?_
  refine okx_na2 (z := .inr (.inl (fun _ => 0))) (sz := 16000) (p := a + 37) (k := 2) (n := 287) (pc := 59) (dec_at lsk_13 (k := 27) rfl) rfl rfl (by decide) ha hr5 (by omega) rfl rfl (fun hr6 => ?_)
  refine okx_put (fs' := [.int 0, .ref (a + 1), .ref (a + 24), .ref (a + 33), .ref (a + 35), .ref (a + 36), .ref (a + 37), .null, .null, .long 0, .long 0]) (pc := 61) (dec_at lsk_13 (k := 28) rfl) f_10_39 ha rfl ⟨rfl, rfl⟩ rfl (by simp) rfl ?_
  refine okx_p (lv' := [.ref a]) (st' := [.ref a]) (pc := 64) (dec_at lsk_13 (k := 29) rfl) rfl ?_
  refine okx_c (sz := 7) (pc := 65) (dec_at lsk_13 (k := 30) rfl) rfl (by decide) ?_
  refine okx_na2 (z := .inr (.inl (fun _ => 0))) (sz := 7) (p := a + 38) (k := 1) (n := 280) (pc := 67) (dec_at lsk_13 (k := 31) rfl) rfl rfl (by decide) ha hr6 (by omega) rfl rfl (fun hr7 => ?_)
  refine okx_put (fs' := [.int 0, .ref (a + 1), .ref (a + 24), .ref (a + 33), .ref (a + 35), .ref (a + 36), .ref (a + 37), .ref (a + 38), .null, .long 0, .long 0]) (pc := 69) (dec_at lsk_13 (k := 32) rfl) f_10_43 ha rfl ⟨rfl, rfl⟩ rfl (by simp) rfl ?_
  refine okx_p (lv' := [.ref a]) (st' := [.ref a]) (pc := 72) (dec_at lsk_13 (k := 33) rfl) rfl ?_
  refine okx_c (sz := 280) (pc := 73) (dec_at lsk_13 (k := 34) rfl) rfl (by decide) ?_
  refine okx_na2 (z := .inr (.inl (fun _ => 0))) (sz := 280) (p := a + 39) (k := 0) (n := 0) (pc := 76) (dec_at lsk_13 (k := 35) rfl) rfl rfl (by decide) ha hr7 (by omega) rfl rfl (fun hr8 => ?_)
  refine okx_put (fs' := [.int 0, .ref (a + 1), .ref (a + 24), .ref (a + 33), .ref (a + 35), .ref (a + 36), .ref (a + 37), .ref (a + 38), .ref (a + 39), .long 0, .long 0]) (pc := 78) (dec_at lsk_13 (k := 36) rfl) f_10_46 ha rfl ⟨rfl, rfl⟩ rfl (by simp) rfl ?_
  exact okx_r (pc := 81) (dec_at lsk_13 (k := 37) rfl) rfl
theorem blk_10_len (a : Nat) : (blk_10 a).length = 40 := by simp only [blk_10, List.length_cons, List.length_append, List.length_nil, blk_2_len, blk_5_len, blk_11_len]
