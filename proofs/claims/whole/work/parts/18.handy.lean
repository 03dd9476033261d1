/-! Handy rules: fields, arrays, branches, calls. A store gives a new world w' of which the changed cell is known, and that all others are as before. -/
section OK2
variable {d own nL : Nat} {ini : Bool} {ret : Option FieldType} {cc : ByteArray} {Q : Option Value → ev_W → Prop} {pc len : Nat} {i : Instr} {lv lv' : ev_L} {st st' : List Value} {w w' : ev_W}
theorem ok_get {x a ci k q0 : Nat} {fs : List Value} {v : Value} (hd : decode cc pc = .ok (.getfield x, 3)) (hf : ev_fld own x = some (ci, k, q0)) (hw : w[a]? = some (.inr (ci, fs))) (hv : fs[k]? = some v) (h : ok d own nL ini ret cc Q (pc + 3) lv (v :: st) w) : ok d own nL ini ret cc Q pc lv (.ref a :: st) w := by
  refine ok_h hd (fun f => ?_) h
  simp [ev_h, ev_get, hf, hw, hv]
theorem ok_put {x a ci k q0 : Nat} {fs fs' : List Value} {v : Value} {ty : FieldType} (hd : decode cc pc = .ok (.putfield x, 3)) (hf : ev_fld own x = some (ci, k, q0)) (hw : w[a]? = some (.inr (ci, fs))) (hty : (ev_cty ci)[k]? = some ty) (hfin : ev_fin ci k = false) (hfit : ev_fit ty v = true) (hk : k < fs.length) (hfs : fs.set k v = fs') (h : ∀ w' : ev_W, w'[a]? = some (.inr (ci, fs')) → (∀ j, j ≠ a → w'[j]? = w[j]?) → w'.length = w.length → ok d own nL ini ret cc Q (pc + 3) lv st w') : ok d own nL ini ret cc Q pc lv (v :: .ref a :: st) w := by
  have ha : a < w.length := (List.getElem?_eq_some_iff.mp hw).1
  refine ok_h (w' := w.set a (.inr (ci, fs'))) hd (fun f => ?_) (h _ (by rw [List.getElem?_set_self ha]) (fun j hj => by rw [List.getElem?_set_ne (Ne.symm hj)]) (by rw [List.length_set]))
  simp [ev_h, ev_set, hf, hw, hty, hfin, hfit, hk, hfs]
theorem ok_iald {a n : Nat} {f : Nat → Int32} {ix : Int32} (hd : decode cc pc = .ok (.iaload, 1)) (hw : w[a]? = some (.inl (0, n, .inl f))) (hin : vp_in ix n) (h : ok d own nL ini ret cc Q (pc + 1) lv (.int (f ix.toNatClampNeg) :: st) w) : ok d own nL ini ret cc Q pc lv (.int ix :: .ref a :: st) w := by
  have h1 : ev_in ix n = true := decide_eq_true hin
  refine ok_h hd (fun f => ?_) h
  simp [ev_h, ev_ai, hw, h1, ev_atyL]
theorem ok_zald {a n : Nat} {f : Nat → Int32} {ix : Int32} (hd : decode cc pc = .ok (.baload, 1)) (hw : w[a]? = some (.inl (2, n, .inl f))) (hin : vp_in ix n) (h : ok d own nL ini ret cc Q (pc + 1) lv (.int (f ix.toNatClampNeg) :: st) w) : ok d own nL ini ret cc Q pc lv (.int ix :: .ref a :: st) w := by
  have h1 : ev_in ix n = true := decide_eq_true hin
  refine ok_h hd (fun f => ?_) h
  simp [ev_h, ev_ai, hw, h1, ev_atyL]
theorem ok_lald {a n : Nat} {f : Nat → Int64} {ix : Int32} (hd : decode cc pc = .ok (.laload, 1)) (hw : w[a]? = some (.inl (1, n, .inr (.inl f)))) (hin : vp_in ix n) (h : ok d own nL ini ret cc Q (pc + 1) lv (.long (f ix.toNatClampNeg) :: st) w) : ok d own nL ini ret cc Q pc lv (.int ix :: .ref a :: st) w := by
  have h1 : ev_in ix n = true := decide_eq_true hin
  refine ok_h hd (fun f => ?_) h
  simp [ev_h, ev_al, hw, h1, ev_atyL]
theorem ok_aald {a n t y : Nat} {f : Nat → Option Nat} {C : String} {ix : Int32} (hd : decode cc pc = .ok (.aaload, 1)) (hw : w[a]? = some (.inl (t, n, .inr (.inr (.inr (.inr f)))))) (ht : ev_atyL[t]? = some (.object C)) (hin : vp_in ix n) (hy : f ix.toNatClampNeg = some y) (h : ok d own nL ini ret cc Q (pc + 1) lv (.ref y :: st) w) : ok d own nL ini ret cc Q pc lv (.int ix :: .ref a :: st) w := by
  have h1 : ev_in ix n = true := decide_eq_true hin
  refine ok_h hd (fun f => ?_) h
  simp [ev_h, ev_aa, hw, h1, ht, hy]
theorem ok_iast {a n : Nat} {f : Nat → Int32} {ix x : Int32} (hd : decode cc pc = .ok (.iastore, 1)) (hw : w[a]? = some (.inl (0, n, .inl f))) (hin : vp_in ix n) (h : ∀ w' : ev_W, w'[a]? = some (.inl (0, n, .inl (upd f ix.toNatClampNeg x))) → (∀ j, j ≠ a → w'[j]? = w[j]?) → w'.length = w.length → ok d own nL ini ret cc Q (pc + 1) lv st w') : ok d own nL ini ret cc Q pc lv (.int x :: .int ix :: .ref a :: st) w := by
  have h1 : ev_in ix n = true := decide_eq_true hin
  have ha : a < w.length := (List.getElem?_eq_some_iff.mp hw).1
  have hx : vp_nar .int x = x := rfl
  refine ok_h (w' := w.set a (.inl (0, n, .inl (upd f ix.toNatClampNeg x)))) hd (fun f => ?_) (h _ (by rw [List.getElem?_set_self ha]) (fun j hj => by rw [List.getElem?_set_ne (Ne.symm hj)]) (by rw [List.length_set]))
  simp [ev_h, ev_si, hw, h1, ev_atyL, hx]
theorem ok_zast {a n : Nat} {f : Nat → Int32} {ix x : Int32} (hd : decode cc pc = .ok (.bastore, 1)) (hw : w[a]? = some (.inl (2, n, .inl f))) (hx : x = 0 ∨ x = 1) (hin : vp_in ix n) (h : ∀ w' : ev_W, w'[a]? = some (.inl (2, n, .inl (upd f ix.toNatClampNeg x))) → (∀ j, j ≠ a → w'[j]? = w[j]?) → w'.length = w.length → ok d own nL ini ret cc Q (pc + 1) lv st w') : ok d own nL ini ret cc Q pc lv (.int x :: .int ix :: .ref a :: st) w := by
  have h1 : ev_in ix n = true := decide_eq_true hin
  have ha : a < w.length := (List.getElem?_eq_some_iff.mp hw).1
  have hx : vp_nar .boolean x = x := by rcases hx with rfl | rfl <;> decide
  refine ok_h (w' := w.set a (.inl (2, n, .inl (upd f ix.toNatClampNeg x)))) hd (fun f => ?_) (h _ (by rw [List.getElem?_set_self ha]) (fun j hj => by rw [List.getElem?_set_ne (Ne.symm hj)]) (by rw [List.length_set]))
  simp [ev_h, ev_si, hw, h1, ev_atyL, hx]
theorem ok_last {a n : Nat} {f : Nat → Int64} {ix : Int32} {x : Int64} (hd : decode cc pc = .ok (.lastore, 1)) (hw : w[a]? = some (.inl (1, n, .inr (.inl f)))) (hin : vp_in ix n) (h : ∀ w' : ev_W, w'[a]? = some (.inl (1, n, .inr (.inl (vp_updL f ix.toNatClampNeg x)))) → (∀ j, j ≠ a → w'[j]? = w[j]?) → w'.length = w.length → ok d own nL ini ret cc Q (pc + 1) lv st w') : ok d own nL ini ret cc Q pc lv (.long x :: .int ix :: .ref a :: st) w := by
  have h1 : ev_in ix n = true := decide_eq_true hin
  have ha : a < w.length := (List.getElem?_eq_some_iff.mp hw).1
  refine ok_h (w' := w.set a (.inl (1, n, .inr (.inl (vp_updL f ix.toNatClampNeg x))))) hd (fun f => ?_) (h _ (by rw [List.getElem?_set_self ha]) (fun j hj => by rw [List.getElem?_set_ne (Ne.symm hj)]) (by rw [List.length_set]))
  simp [ev_h, ev_sl, hw, h1, ev_atyL]
theorem ok_alen {a t n : Nat} {x : (Nat → Int32) ⊕ (Nat → Int64) ⊕ (Nat → UInt32) ⊕ (Nat → UInt64) ⊕ (Nat → Option Nat)} (hd : decode cc pc = .ok (.arraylength, 1)) (hw : w[a]? = some (.inl (t, n, x))) (ht : t < 5) (h : ok d own nL ini ret cc Q (pc + 1) lv (.int (nI n) :: st) w) : ok d own nL ini ret cc Q pc lv (.ref a :: st) w := by
  refine ok_h hd (fun f => ?_) h
  simp [ev_h, ev_alen, hw, ev_atyL, ht, nI]
/-- branches -/
theorem ok_if {P : Prop} {c : Jvm.ClassFile.Cond} {o : Int} {tgt : Nat} {x : Int32} (hd : decode cc pc = .ok (.ifCond c o, 3)) (ht : (pc : Int) + o = (tgt : Int)) (hP : ev_cond c x 0 = true ↔ P) (kt : P → ok d own nL ini ret cc Q tgt lv st w) (kf : ¬ P → ok d own nL ini ret cc Q (pc + 3) lv st w) : ok d own nL ini ret cc Q pc lv (.int x :: st) w := by
  have h0 : 0 ≤ (pc : Int) + o := by omega
  by_cases h : ev_cond c x 0 = true
  · exact ok_b (pc' := tgt) (st' := st) hd (by simp [ev_b, h0, h, ht]) (kt (hP.mp h))
  · exact ok_b (pc' := pc + 3) (st' := st) hd (by simp [ev_b, h0, h]) (kf (fun q => h (hP.mpr q)))
theorem ok_icmp {P : Prop} {c : Jvm.ClassFile.Cond} {o : Int} {tgt : Nat} {x y : Int32} (hd : decode cc pc = .ok (.if_icmp c o, 3)) (ht : (pc : Int) + o = (tgt : Int)) (hP : ev_cond c x y = true ↔ P) (kt : P → ok d own nL ini ret cc Q tgt lv st w) (kf : ¬ P → ok d own nL ini ret cc Q (pc + 3) lv st w) : ok d own nL ini ret cc Q pc lv (.int y :: .int x :: st) w := by
  have h0 : 0 ≤ (pc : Int) + o := by omega
  by_cases h : ev_cond c x y = true
  · exact ok_b (pc' := tgt) (st' := st) hd (by simp [ev_b, h0, h, ht]) (kt (hP.mp h))
  · exact ok_b (pc' := pc + 3) (st' := st) hd (by simp [ev_b, h0, h]) (kf (fun q => h (hP.mpr q)))
theorem ok_goto {o : Int} {tgt : Nat} (hd : decode cc pc = .ok (.goto o, 3)) (ht : (pc : Int) + o = (tgt : Int)) (h : ok d own nL ini ret cc Q tgt lv st w) : ok d own nL ini ret cc Q pc lv st w := ok_b (pc' := tgt) (st' := st) hd (by simp [ev_b, ht]) h
/-- calls -/
theorem ok_cs {P : Option Value → ev_W → Prop} {x kd j n : Nat} {q : Nat × Nat × Nat} {As st2 : List Value} (hd : decode cc pc = .ok (.invokestatic x, 3)) (hm : ev_mth own x = some (kd, j, n, q)) (hk : kd = 0 ∨ kd = 5) (hp : ev_pop n [] st = some (As, st2)) (hc : ev_cat st2 ≤ 8) (hM : okm d j As w P) (h : ∀ v w', P v w' → ok d own nL ini ret cc Q (pc + 3) lv (v.toList ++ st2) w') : ok d own nL ini ret cc Q pc lv st w := by
  refine ok_call hd hM (fun f => ?_) h
  have h2 : ¬ kd = 2 := by omega
  have h8 : ¬ 8 ≤ kd := by omega
  simp [ev_h, ev_stat, hm, hp, hc, h2, h8, hk]
theorem ok_cv {P : Option Value → ev_W → Prop} {x kd j n rb ci : Nat} {q : Nat × Nat × Nat} {fs : List Value} {qm : ev_MT} {As st2 : List Value} (hd : decode cc pc = .ok (.invokevirtual x, 3)) (hm : ev_mth own x = some (kd, j, n, q)) (hk : kd = 3 ∨ kd = 6) (hp : ev_pop n [] st = some (As, .ref rb :: st2)) (hc : ev_cat st2 ≤ 8) (hw : w[rb]? = some (.inr (ci, fs))) (hq : ev_mL[j]? = some qm) (hci : ci = qm.1) (hM : okm d j (.ref rb :: As) w P) (h : ∀ v w', P v w' → ok d own nL ini ret cc Q (pc + 3) lv (v.toList ++ st2) w') : ok d own nL ini ret cc Q pc lv st w := by
  refine ok_call hd hM (fun f => ?_) h
  simp [ev_h, ev_virt, hm, hp, hc, hk, hw, hq, hci]
end OK2
/-- conditions -/
theorem ev_ge {a b : Nat} (ha : a < 2 ^ 31) (hb : b < 2 ^ 31) : ev_cond .ge (nI a) (nI b) = true ↔ b ≤ a := by simp only [ev_cond, decide_eq_true_eq]; exact nI_leI hb ha
theorem ev_lt {a b : Nat} (ha : a < 2 ^ 31) (hb : b < 2 ^ 31) : ev_cond .lt (nI a) (nI b) = true ↔ a < b := by simp only [ev_cond, decide_eq_true_eq]; exact nI_ltI ha hb
theorem ev_gt {a b : Nat} (ha : a < 2 ^ 31) (hb : b < 2 ^ 31) : ev_cond .gt (nI a) (nI b) = true ↔ b < a := by simp only [ev_cond, decide_eq_true_eq]; exact nI_ltI hb ha
theorem ev_lE {a b : Nat} (ha : a < 2 ^ 31) (hb : b < 2 ^ 31) : ev_cond .le (nI a) (nI b) = true ↔ a ≤ b := by simp only [ev_cond, decide_eq_true_eq]; exact nI_leI ha hb
theorem ev_eq {a b : Nat} (ha : a < 2 ^ 31) (hb : b < 2 ^ 31) : ev_cond .eq (nI a) (nI b) = true ↔ a = b := by simp only [ev_cond, decide_eq_true_eq]; exact nI_eq ha hb
theorem ev_ne {a b : Nat} (ha : a < 2 ^ 31) (hb : b < 2 ^ 31) : ev_cond .ne (nI a) (nI b) = true ↔ ¬ a = b := by simp only [ev_cond, decide_eq_true_eq]; rw [nI_eq ha hb]
