/-! Runs that make cells: exact results -/
def okx (d own nL : Nat) (ini : Bool) (ret : Option FieldType) (cc : ByteArray) (pc : Nat) (lv : ev_L) (st : List Value) (w w' : ev_W) (k n : Nat) : Prop := ∃ f : Nat, ∀ k0 n0, ev_go (ev_m d f) own nL ini ret cc f (pc, lv, st, w, k0, n0) = some (none, w', k0 + k, n0 + n)
def okmx (d j : Nat) (As : List Value) (w w' : ev_W) (k n : Nat) : Prop := ∃ f : Nat, ev_m d f j As w = some (none, w', k, n)
section OKX
variable {d own nL : Nat} {ini : Bool} {ret : Option FieldType} {cc : ByteArray} {pc len : Nat} {i : Instr} {lv lv' : ev_L} {st st' : List Value} {w w1 w' : ev_W} {k n k1 n1 : Nat}
theorem okmx.mono {d' j : Nat} {As : List Value} (h : okmx d j As w w' k n) (hd : d ≤ d') : okmx d' j As w w' k n := by
  obtain ⟨f, h⟩ := h
  exact ⟨f, ev_m_mono hd (Nat.le_refl f) _ _ _ _ h⟩
theorem okmx_of {j : Nat} {nm ds : String} {q0 : Nat} {As : List Value} (hj : ev_mL[j]? = some (own, nm, ds, cc, nL, ret, ini, q0)) (hl : (ev_ent As).length ≤ nL) (h : okx d own nL ini ret cc 0 (ev_pad nL (ev_ent As)) [] w w' k n) : okmx (d + 1) j As w w' k n := by
  obtain ⟨f, h1⟩ := h
  refine ⟨f, ?_⟩
  unfold ev_m
  rw [hj]
  simp only
  rw [if_pos hl, h1 0 0, Nat.zero_add, Nat.zero_add]
/-- a run that makes no cells -/
theorem okx_okm {j : Nat} {As : List Value} {Q : Option Value → ev_W → Prop} (h : okm d j As w Q) (hQ : ∀ v w2, Q v w2 → v = none ∧ w2 = w') : okmx d j As w w' 0 0 := by
  obtain ⟨f, v, w2, h1, h2⟩ := h
  obtain ⟨rfl, rfl⟩ := hQ v w2 h2
  exact ⟨f, h1⟩
theorem okx_p (hd : decode cc pc = .ok (i, len)) (hp : ev_p own nL i len lv st = some (lv', st')) (h : okx d own nL ini ret cc (pc + len) lv' st' w w' k n) : okx d own nL ini ret cc pc lv st w w' k n := by
  obtain ⟨f, h1⟩ := h
  refine ⟨f + 1, fun k0 n0 => ?_⟩
  unfold ev_go
  simp only [hd]
  have e : ev_step (ev_m d (f + 1)) own nL ini ret i len (pc, lv, st, w, k0, n0) = some (.inl (pc + len, lv', st', w, k0, n0)) := by
    unfold ev_step
    simp only [hp]
  rw [e]
  exact ev_go_mono (ev_m_mono (Nat.le_refl d) (Nat.le_succ f)) (h1 k0 n0) (Nat.le_refl f)
theorem okx_b {pc' : Nat} (hd : decode cc pc = .ok (i, len)) (hb : ev_b i len pc st = some (pc', st')) (h : okx d own nL ini ret cc pc' lv st' w w' k n) : okx d own nL ini ret cc pc lv st w w' k n := by
  obtain ⟨f, h1⟩ := h
  refine ⟨f + 1, fun k0 n0 => ?_⟩
  unfold ev_go
  simp only [hd]
  have e : ev_step (ev_m d (f + 1)) own nL ini ret i len (pc, lv, st, w, k0, n0) = some (.inl (pc', lv, st', w, k0, n0)) := by
    unfold ev_step
    simp only [ev_b_p (own := own) (nL := nL) (lv := lv) hb, hb]
  rw [e]
  exact ev_go_mono (ev_m_mono (Nat.le_refl d) (Nat.le_succ f)) (h1 k0 n0) (Nat.le_refl f)
theorem okx_h (hd : decode cc pc = .ok (i, len)) (f1 : Nat) (hh : ∀ f, f1 ≤ f → ev_h (ev_m d f) own ini i len st w = some (st', w1, k1, n1)) (h : okx d own nL ini ret cc (pc + len) lv st' w1 w' k n) : okx d own nL ini ret cc pc lv st w w' (k1 + k) (n1 + n) := by
  obtain ⟨f, h1⟩ := h
  refine ⟨max f1 f + 1, fun k0 n0 => ?_⟩
  unfold ev_go
  simp only [hd]
  have hh := hh (max f1 f + 1) (by omega)
  have e : ev_step (ev_m d (max f1 f + 1)) own nL ini ret i len (pc, lv, st, w, k0, n0) = some (.inl (pc + len, lv, st', w1, k0 + k1, n0 + n1)) := by
    unfold ev_step
    simp only [ev_h_p (nL := nL) (lv := lv) hh, ev_h_b (pc := pc) hh, hh]
  rw [e]
  have h2 := ev_go_mono (ev_m_mono (Nat.le_refl d) (by omega : f ≤ max f1 f + 1)) (h1 (k0 + k1) (n0 + n1)) (by omega : f ≤ max f1 f)
  rw [Nat.add_assoc, Nat.add_assoc] at h2
  exact h2
theorem okx_r (hd : decode cc pc = .ok (i, len)) (hr : ev_ret ret i len st = some none) : okx d own nL ini ret cc pc lv st w w 0 0 := by
  refine ⟨1, fun k0 n0 => ?_⟩
  unfold ev_go
  simp only [hd]
  have e3 : ev_step (ev_m d 1) own nL ini ret i len (pc, lv, st, w, k0, n0) = some (.inr (none, w, k0, n0)) := by
    unfold ev_step
    simp only [ev_ret_p (own := own) (nL := nL) (lv := lv) hr, ev_ret_b (pc := pc) hr, ev_ret_h hr, hr]
  rw [e3]
  rfl
/-- the world of a maker: what was there, the object that is made, what it has made -/
theorem mk_get {w r : ev_W} {o : va_E} {a : Nat} (ha : w.length = a) : (w ++ (o :: r))[a]? = some o := by
  subst ha
  rw [List.getElem?_append_right (Nat.le_refl _), Nat.sub_self]
  rfl
theorem mk_set {w r : ev_W} {o o' : va_E} {a : Nat} (ha : w.length = a) : (w ++ (o :: r)).set a o' = w ++ (o' :: r) := by
  subst ha
  rw [List.set_append_right _ _ (Nat.le_refl _), Nat.sub_self]
  rfl
theorem mk_len {w r : ev_W} {o : va_E} {a m p : Nat} (ha : w.length = a) (hr : r.length = m) (hp : a + 1 + m = p) : (w ++ (o :: r)).length = p := by
  rw [List.length_append, List.length_cons, ha, hr]
  omega
theorem mk_app {w r s : ev_W} {o : va_E} : (w ++ (o :: r)) ++ s = w ++ (o :: (r ++ s)) := by
  rw [List.append_assoc, List.cons_append]
variable {r : ev_W} {o : va_E} {a m : Nat}
/-- a field of the object that is made -/
theorem okx_put {x ci kf q0 : Nat} {fs fs' : List Value} {v : Value} {ty : FieldType} (hd : decode cc pc = .ok (.putfield x, 3)) (hf : ev_fld own x = some (ci, kf, q0)) (ha : w.length = a) (hty : (ev_cty ci)[kf]? = some ty) (hini : ini = true ∧ own = ci) (hfit : ev_fit ty v = true) (hk : kf < fs.length) (hfs : fs.set kf v = fs') (h : okx d own nL ini ret cc (pc + 3) lv st (w ++ (.inr (ci, fs') :: r)) w' k n) : okx d own nL ini ret cc pc lv (v :: .ref a :: st) (w ++ (.inr (ci, fs) :: r)) w' k n := by
  obtain ⟨g1, g2⟩ := hini
  subst g1 g2
  have h0 := okx_h (k1 := 0) (n1 := 0) (st := v :: .ref a :: st) (w := w ++ (.inr (own, fs) :: r)) hd 0 (fun f _ => ?_) h
  · rw [Nat.zero_add, Nat.zero_add] at h0
    exact h0
  · simp [ev_h, ev_set, hf, mk_get ha, hty, hfit, hk, hfs, mk_set ha]
/-- a new array of numbers -/
theorem okx_na {ty : ArrayType} {t p sz : Nat} {z : (Nat → Int32) ⊕ (Nat → Int64) ⊕ (Nat → UInt32) ⊕ (Nat → UInt64) ⊕ (Nat → Option Nat)} {x : Int32} (hd : decode cc pc = .ok (.newarray ty, 2)) (hz : ev_zero ty = some (t, z)) (hx : x = nI sz) (hs : sz ≤ 1000000) (ha : w.length = a) (hr : r.length = m) (hp : a + 1 + m = p) (h : (r ++ [(.inl (t, sz, z) : va_E)]).length = m + 1 → okx d own nL ini ret cc (pc + 2) lv (.ref p :: st) (w ++ (o :: (r ++ [.inl (t, sz, z)]))) w' k n) : okx d own nL ini ret cc pc lv (.int x :: st) (w ++ (o :: r)) w' (1 + k) (sz + n) := by
  refine okx_h hd 0 (fun f _ => ?_) (h (by rw [List.length_append, hr]; rfl))
  have e1 : (nI sz).toNatClampNeg = sz := nI_clamp (by omega)
  have e2 : ¬ nI sz < 0 := nI_pos (by omega)
  subst hx
  simp [ev_h, hz, ev_newa, e1, e2, hs, mk_len ha hr hp, mk_app]
/-- a new array of references -/
theorem okx_an {c t p sz ci q0 : Nat} {x : Int32} (hd : decode cc pc = .ok (.anewarray c, 3)) (hc : ev_cls own c = some (ci, q0)) (ht : ev_arrT ci = some t) (hx : x = nI sz) (hs : sz ≤ 1000000) (ha : w.length = a) (hr : r.length = m) (hp : a + 1 + m = p) (h : (r ++ [(.inl (t, sz, .inr (.inr (.inr (.inr (fun _ => none))))) : va_E)]).length = m + 1 → okx d own nL ini ret cc (pc + 3) lv (.ref p :: st) (w ++ (o :: (r ++ [.inl (t, sz, .inr (.inr (.inr (.inr (fun _ => none)))))]))) w' k n) : okx d own nL ini ret cc pc lv (.int x :: st) (w ++ (o :: r)) w' (1 + k) (sz + n) := by
  refine okx_h hd 0 (fun f _ => ?_) (h (by rw [List.length_append, hr]; rfl))
  have e1 : (nI sz).toNatClampNeg = sz := nI_clamp (by omega)
  have e2 : ¬ nI sz < 0 := nI_pos (by omega)
  subst hx
  simp [ev_h, hc, ht, ev_newa, e1, e2, hs, mk_len ha hr hp, mk_app]
theorem okx_new {c p ci q0 : Nat} (hd : decode cc pc = .ok (.new c, 3)) (hc : ev_cls own c = some (ci, q0)) (hci : ci < ev_cl.length) (ha : w.length = a) (hr : r.length = m) (hp : a + 1 + m = p) (h : okx d own nL ini ret cc (pc + 3) lv (.ref p :: st) (w ++ (o :: (r ++ [.inr (ci, (ev_cty ci).map defaultValue)]))) w' k n) : okx d own nL ini ret cc pc lv st (w ++ (o :: r)) w' (1 + k) ((ev_cty ci).length + n) := by
  refine okx_h hd 0 (fun f _ => ?_) h
  have hc2 : ci < 13 := hci
  simp [ev_h, hc, ev_new, hc2, mk_len ha hr hp, mk_app]
/-- a call of a maker -/
theorem okx_ini {x kd j nn q0 q1 p : Nat} {q : Nat × Nat × Nat} {b : ev_W} {e0 : va_E} (hd : decode cc pc = .ok (.invokespecial x, 3)) (hm : ev_mth own x = some (kd, j, 0, q)) (hk : kd = 4 ∨ kd = 7) (hc : ev_cat st ≤ 8) (hM : okmx d j [.ref p] (w ++ (o :: (r ++ [e0]))) (w ++ (o :: (r ++ b))) k1 n1) (h : okx d own nL ini ret cc (pc + 3) lv st (w ++ (o :: (r ++ b))) w' k n) : okx d own nL ini ret cc pc lv (.ref p :: st) (w ++ (o :: (r ++ [e0]))) w' (k1 + k) (n1 + n) := by
  obtain ⟨f1, hM⟩ := hM
  refine okx_h (st' := st) (w1 := w ++ (o :: (r ++ b))) hd f1 (fun f hf => ?_) h
  have e := ev_m_mono (Nat.le_refl d) hf _ _ _ _ hM
  have h1 : ¬ kd = 1 := by omega
  simp [ev_h, ev_spec, hm, h1, hk, ev_pop, hc, e, ev_back]
/-- the call of Object's maker -/
theorem okx_obj {x j nn b : Nat} {q : Nat × Nat × Nat} (hd : decode cc pc = .ok (.invokespecial x, 3)) (hm : ev_mth own x = some (1, j, nn, q)) (hc : ev_cat st ≤ 8) (h : okx d own nL ini ret cc (pc + 3) lv st w w' k n) : okx d own nL ini ret cc pc lv (.ref b :: st) w w' k n := by
  have h0 := okx_h (k1 := 0) (n1 := 0) (st := .ref b :: st) (w := w) hd 0 (fun f _ => ?_) h
  · rw [Nat.zero_add, Nat.zero_add] at h0
    exact h0
  · simp [ev_h, ev_spec, hm, hc]
/-- new, dup, the maker's call -/
theorem okx_mk {c p ci q0 x kd j lc kC nC : Nat} {q : Nat × Nat × Nat} {blk : Nat → ev_W} (hd1 : decode cc pc = .ok (.new c, 3)) (hc : ev_cls own c = some (ci, q0)) (hci : ci < ev_cl.length) (hd2 : decode cc (pc + 3) = .ok (.dup, 1)) (hd3 : decode cc (pc + 4) = .ok (.invokespecial x, 3)) (hm : ev_mth own x = some (kd, j, 0, q)) (hk : kd = 4 ∨ kd = 7) (hcat : ev_cat (.ref p :: st) ≤ 8) (ha : w.length = a) (hr : r.length = m) (hp : a + 1 + m = p) (hM : ∀ w2 : ev_W, w2.length = p → okmx d j [.ref p] (w2 ++ [.inr (ci, (ev_cty ci).map defaultValue)]) (w2 ++ blk p) kC nC) (hlen : (blk p).length = lc) (h : (r ++ blk p).length = m + lc → okx d own nL ini ret cc (pc + 7) lv (.ref p :: st) (w ++ (o :: (r ++ blk p))) w' k n) : okx d own nL ini ret cc pc lv st (w ++ (o :: r)) w' (1 + (kC + k)) ((ev_cty ci).length + (nC + n)) := by
  refine okx_new hd1 hc hci ha hr hp ?_
  refine okx_p (lv' := lv) (st' := .ref p :: .ref p :: st) hd2 rfl ?_
  have hM2 := hM (w ++ (o :: r)) (mk_len ha hr hp)
  rw [mk_app, mk_app] at hM2
  exact okx_ini (nn := 0) (q0 := 0) (q1 := 0) hd3 hm hk hcat hM2 (h (by rw [List.length_append, hr, hlen]))
theorem okx_c {z : Int32} {sz : Nat} (hd : decode cc pc = .ok (i, len)) (hp : ev_p own nL i len lv st = some (lv, .int z :: st)) (hz : z = nI sz) (h : okx d own nL ini ret cc (pc + len) lv (.int (nI sz) :: st) w w' k n) : okx d own nL ini ret cc pc lv st w w' k n := okx_p hd (by rw [hp, hz]) h
theorem okx_ldc {c q sz : Nat} {z : Int32} (hd : decode cc pc = .ok (.ldc c, 2)) (hc : ev_con own c = some (.int z, q)) (hz : z = nI sz) (h : okx d own nL ini ret cc (pc + 2) lv (.int (nI sz) :: st) w w' k n) : okx d own nL ini ret cc pc lv st w w' k n := okx_p (lv' := lv) (st' := .int (nI sz) :: st) hd (by simp only [ev_p, hc, hz, if_true]) h
theorem okx_get {x ci kf q0 : Nat} {fs : List Value} {v : Value} (hd : decode cc pc = .ok (.getfield x, 3)) (hf : ev_fld own x = some (ci, kf, q0)) (ha : w.length = a) (hv : fs[kf]? = some v) (h : okx d own nL ini ret cc (pc + 3) lv (v :: st) (w ++ (.inr (ci, fs) :: r)) w' k n) : okx d own nL ini ret cc pc lv (.ref a :: st) (w ++ (.inr (ci, fs) :: r)) w' k n := by
  have h0 := okx_h (k1 := 0) (n1 := 0) (st := .ref a :: st) (w := w ++ (.inr (ci, fs) :: r)) hd 0 (fun f _ => ?_) h
  · rw [Nat.zero_add, Nat.zero_add] at h0
    exact h0
  · simp [ev_h, ev_get, hf, mk_get ha, hv]
end OKX
theorem mk_at {w R tl : ev_W} {o e : va_E} {a m v : Nat} (ha : w.length = a) (hR : R.length = m) (hv : a + 1 + m = v) : (w ++ (o :: (R ++ (e :: tl))))[v]? = some e := by
  subst hv ha hR
  rw [List.getElem?_append_right (by omega)]
  have h1 : w.length + 1 + R.length - w.length = R.length + 1 := by omega
  rw [h1, List.getElem?_cons_succ, List.getElem?_append_right (Nat.le_refl _), Nat.sub_self]
  rfl
theorem mk_st {w A B : ev_W} {o e e' : va_E} {a m p : Nat} (ha : w.length = a) (hA : A.length = m) (hp : a + 1 + m = p) : (w ++ (o :: ((A ++ [e]) ++ B))).set p e' = w ++ (o :: ((A ++ [e']) ++ B)) := by
  subst hp ha hA
  rw [List.set_append_right _ _ (by omega)]
  have h1 : w.length + 1 + A.length - w.length = A.length + 1 := by omega
  rw [h1, List.set_cons_succ, List.append_assoc, List.set_append_right _ _ (Nat.le_refl _), Nat.sub_self, List.append_assoc]
  rfl
theorem okx_as {d own nL : Nat} {ini : Bool} {ret : Option FieldType} {cc : ByteArray} {pc : Nat} {lv : ev_L} {st : List Value} {w w' r A B : ev_W} {k n a : Nat} {o : va_E} {f : Nat → Option Nat} {t sz idx mA p v ci : Nat} {fs0 : List Value} {q : vw_C} (hd : decode cc pc = .ok (.aastore, 1)) (ha : w.length = a) (hA : A.length = mA) (hp : a + 1 + mA = p) (hR : r = (A ++ [.inl (t, sz, .inr (.inr (.inr (.inr f))))]) ++ B) (hv : (w ++ (o :: r))[v]? = some (.inr (ci, fs0))) (hq : ev_cl[ci]? = some q) (ht : ev_atyL[t]? = some (.object q.1)) (hi : idx < sz) (hs : sz < 2 ^ 31) (h : okx d own nL ini ret cc (pc + 1) lv st (w ++ (o :: ((A ++ [.inl (t, sz, .inr (.inr (.inr (.inr (va_up f idx (some v))))))]) ++ B))) w' k n) : okx d own nL ini ret cc pc lv (.ref v :: .int (nI idx) :: .ref p :: st) (w ++ (o :: r)) w' k n := by
  subst hR
  have hg : (w ++ (o :: ((A ++ [.inl (t, sz, .inr (.inr (.inr (.inr f))))]) ++ B)))[p]? = some (.inl (t, sz, .inr (.inr (.inr (.inr f))))) := by
    rw [List.append_assoc]
    exact mk_at ha hA hp
  have h1 : ev_in (nI idx) sz = true := decide_eq_true (vp_in_nI hi hs)
  have hc := nI_clamp (Nat.lt_trans hi hs)
  have e : ∀ f0, ev_h (ev_m d f0) own ini .aastore 1 (.ref v :: .int (nI idx) :: .ref p :: st) (w ++ (o :: ((A ++ [.inl (t, sz, .inr (.inr (.inr (.inr f))))]) ++ B))) = some (st, w ++ (o :: ((A ++ [.inl (t, sz, .inr (.inr (.inr (.inr (va_up f idx (some v))))))]) ++ B)), 0, 0) := by
    intro f0
    have e2 : ev_sa (.ref v :: .int (nI idx) :: .ref p :: st) (w ++ (o :: ((A ++ [.inl (t, sz, .inr (.inr (.inr (.inr f))))]) ++ B))) = some (st, w ++ (o :: ((A ++ [.inl (t, sz, .inr (.inr (.inr (.inr (va_up f idx (some v))))))]) ++ B))) := by
      unfold ev_sa
      simp only [hg, hv, hq]
      rw [if_pos ⟨ht, h1⟩, hc, mk_st ha hA hp]
    show (if (1 : Nat) = 1 then (ev_sa _ _).map (fun q => (q.1, q.2, 0, 0)) else none) = _
    rw [if_pos rfl, e2]
    rfl
  have h0 := okx_h (k1 := 0) (n1 := 0) hd 0 (fun f0 _ => e f0) h
  rw [Nat.zero_add, Nat.zero_add] at h0
  exact h0
/-- becomeEmptyWord, on a list of cells -/
theorem c_8 {w : ev_W} {a p : Nat} {x0 x1 : Value} {f : Nat → Int32} (hap : a ≠ p) (hw : w[a]? = some (.inr (5, [x0, x1, .ref p]))) (hp : w[p]? = some (.inl (0, 400, .inl f))) : okm 3 8 [.ref a] w (fun v w' => v = none ∧ w'[a]? = some (.inr (5, [iV 2, lV 1, .ref p])) ∧ w'[p]? = some (.inl (0, 400, .inl (mc_row (mc_row f 0 10 (Int32.ofInt 1)) 1 10 (Int32.ofInt 1)))) ∧ (∀ j, j ≠ a → j ≠ p → w'[j]? = w[j]?) ∧ w'.length = w.length) := by
  refine okm_of me_8 (Nat.le_of_ble_eq_true rfl) ?_
  refine ok_p (lv' := [.ref a]) (st' := [.ref a]) (pc := 0) (dec_at lsk_8 (k := 0) rfl) rfl ?_
  refine ok_p (lv' := [.ref a]) (st' := [iV 2, .ref a]) (pc := 1) (dec_at lsk_8 (k := 1) rfl) rfl ?_
  refine ok_put (fs' := [iV 2, x1, .ref p]) (pc := 2) (dec_at lsk_8 (k := 2) rfl) f_5_9 hw rfl rfl rfl (by simp) rfl (fun w1 a1 b1 l1 => ?_)
  refine ok_p (lv' := [.ref a]) (st' := [.ref a]) (pc := 5) (dec_at lsk_8 (k := 3) rfl) rfl ?_
  refine ok_p (lv' := [.ref a]) (st' := [lV 1, .ref a]) (pc := 6) (dec_at lsk_8 (k := 4) rfl) rfl ?_
  refine ok_put (fs' := [iV 2, lV 1, .ref p]) (pc := 7) (dec_at lsk_8 (k := 5) rfl) f_5_19 a1 rfl rfl rfl (by simp) rfl (fun w2 a2 b2 l2 => ?_)
  have p2 : w2[p]? = some (.inl (0, 400, .inl f)) := by rw [b2 p (Ne.symm hap), b1 p (Ne.symm hap)]; exact hp
  refine ok_p (lv' := [.ref a]) (st' := [.ref a]) (pc := 10) (dec_at lsk_8 (k := 6) rfl) rfl ?_
  refine ok_p (lv' := [.ref a]) (st' := [.int (nI 0), .ref a]) (pc := 11) (dec_at lsk_8 (k := 7) rfl) rfl ?_
  refine ok_p (lv' := [.ref a]) (st' := [iV 1, .int (nI 0), .ref a]) (pc := 12) (dec_at lsk_8 (k := 8) rfl) rfl ?_
  refine ok_cv (As := [.int (nI 0), iV 1]) (rb := a) (st2 := []) (pc := 13) (dec_at lsk_8 (k := 9) rfl) m_5_29 (Or.inl rfl) rfl (Nat.zero_le _) a2 me_9 rfl (c_9 hap a2 p2 (by decide)) (fun v w3 hv => ?_)
  obtain ⟨rfl, q3, b3, l3⟩ := hv
  have a3 : w3[a]? = some (.inr (5, [iV 2, lV 1, .ref p])) := by rw [b3 a hap]; exact a2
  refine ok_p (lv' := [.ref a]) (st' := [.ref a]) (pc := 16) (dec_at lsk_8 (k := 10) rfl) rfl ?_
  refine ok_p (lv' := [.ref a]) (st' := [.int (nI 1), .ref a]) (pc := 17) (dec_at lsk_8 (k := 11) rfl) rfl ?_
  refine ok_p (lv' := [.ref a]) (st' := [iV 1, .int (nI 1), .ref a]) (pc := 18) (dec_at lsk_8 (k := 12) rfl) rfl ?_
  refine ok_cv (As := [.int (nI 1), iV 1]) (rb := a) (st2 := []) (pc := 19) (dec_at lsk_8 (k := 13) rfl) m_5_29 (Or.inl rfl) rfl (Nat.zero_le _) a3 me_9 rfl (c_9 hap a3 q3 (by decide)) (fun v w4 hv => ?_)
  obtain ⟨rfl, q4, b4, l4⟩ := hv
  refine ok_r (pc := 22) (dec_at lsk_8 (k := 14) rfl) rfl ⟨rfl, ?_, q4, fun j ja jp => ?_, ?_⟩
  · rw [b4 a hap]
    exact a3
  · rw [b4 j jp, b3 j jp, b2 j ja, b1 j ja]
  · rw [l4, l3, l2, l1]
