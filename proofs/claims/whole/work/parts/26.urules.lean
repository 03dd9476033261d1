/-! Rules over numbers -/
def okU (d own nL : Nat) (ini : Bool) (ret : Option FieldType) (cc : ByteArray) (Q : Option Value → uS → Prop) (pc : Nat) (lv : ev_L) (st : List Value) (u : uS) : Prop := ok d own nL ini ret cc (fun v w' => ∃ u', w' = wo u' ∧ Q v u') pc lv st (wo u)
def cU (d j : Nat) (As : List Value) (u : uS) (Q : Option Value → uS → Prop) : Prop := okm d j As (wo u) (fun v w' => ∃ u', w' = wo u' ∧ Q v u')
def qI (Q : Int → uS → Prop) : Option Value → uS → Prop := fun v u' => ∃ x, v = some (iV x) ∧ Q x u'
def qL (Q : Int → uS → Prop) : Option Value → uS → Prop := fun v u' => ∃ x, v = some (lV x) ∧ Q x u'
def qR (Q : Nat → uS → Prop) : Option Value → uS → Prop := fun v u' => ∃ x, v = some (.ref x) ∧ Q x u'
def qV (Q : uS → Prop) : Option Value → uS → Prop := fun v u' => v = none ∧ Q u'
def cI (d j : Nat) (As : List Value) (u : uS) (Q : Int → uS → Prop) : Prop := cU d j As u (qI Q)
def cL (d j : Nat) (As : List Value) (u : uS) (Q : Int → uS → Prop) : Prop := cU d j As u (qL Q)
def cR (d j : Nat) (As : List Value) (u : uS) (Q : Nat → uS → Prop) : Prop := cU d j As u (qR Q)
def cV (d j : Nat) (As : List Value) (u : uS) (Q : uS → Prop) : Prop := cU d j As u (qV Q)
theorem cU.mono {d d' j : Nat} {As : List Value} {u : uS} {Q Q' : Option Value → uS → Prop} (h : cU d j As u Q) (hd : d ≤ d') (hQ : ∀ v u', Q v u' → Q' v u') : cU d' j As u Q' := okm.mono h hd (fun v w' ⟨u', e, q⟩ => ⟨u', e, hQ v u' q⟩)
theorem cI.mono {d d' j : Nat} {As : List Value} {u : uS} {Q Q' : Int → uS → Prop} (h : cI d j As u Q) (hd : d ≤ d') (hQ : ∀ v u', Q v u' → Q' v u') : cI d' j As u Q' := cU.mono h hd (fun _ u' ⟨x, e, q⟩ => ⟨x, e, hQ x u' q⟩)
theorem cL.mono {d d' j : Nat} {As : List Value} {u : uS} {Q Q' : Int → uS → Prop} (h : cL d j As u Q) (hd : d ≤ d') (hQ : ∀ v u', Q v u' → Q' v u') : cL d' j As u Q' := cU.mono h hd (fun _ u' ⟨x, e, q⟩ => ⟨x, e, hQ x u' q⟩)
theorem cR.mono {d d' j : Nat} {As : List Value} {u : uS} {Q Q' : Nat → uS → Prop} (h : cR d j As u Q) (hd : d ≤ d') (hQ : ∀ v u', Q v u' → Q' v u') : cR d' j As u Q' := cU.mono h hd (fun _ u' ⟨x, e, q⟩ => ⟨x, e, hQ x u' q⟩)
theorem cV.mono {d d' j : Nat} {As : List Value} {u : uS} {Q Q' : uS → Prop} (h : cV d j As u Q) (hd : d ≤ d') (hQ : ∀ u', Q u' → Q' u') : cV d' j As u Q' := cU.mono h hd (fun _ u' ⟨e, q⟩ => ⟨e, hQ u' q⟩)
theorem sh_n {a : Nat} {s : Nat × Nat × Nat × Nat} (h : shp[a]? = some s) : s.2.1 < 2 ^ 31 := by
  have h0 : shp.all (fun s => decide (s.2.1 < 2 ^ 31)) = true := by decide +kernel
  exact of_decide_eq_true (List.all_eq_true.mp h0 s (List.mem_of_getElem? h))
theorem ix_nat {i : Int} {n : Nat} (h0 : 0 ≤ i) (h1 : i < n) : ∃ k : Nat, i = (k : Int) ∧ k < n := ⟨i.toNat, by omega, by omega⟩
theorem iV_nat (k : Nat) : iV (k : Int) = .int (nI k) := congrArg Value.int Int32.ofInt_eq_ofNat
theorem ri_toInt (z : Int32) : rI z.toInt := ⟨by have := Int32.le_toInt z; omega, by have := Int32.toInt_lt z; omega⟩
theorem rl_toInt (z : Int64) : rL z.toInt := ⟨by have := Int64.le_toInt z; omega, by have := Int64.toInt_lt z; omega⟩
section OKS
variable {d own nL : Nat} {ini : Bool} {ret : Option FieldType} {cc : ByteArray} {Q : Option Value → ev_W → Prop} {pc len : Nat} {i : Instr} {lv lv' : ev_L} {st st' : List Value} {w w' : ev_W}
theorem ok_iastS {a n k : Nat} {f : Nat → Int32} {x : Int32} (hd : decode cc pc = .ok (.iastore, 1)) (hw : w[a]? = some (.inl (0, n, .inl f))) (hk : k < n) (hn : n < 2 ^ 31) (h : ok d own nL ini ret cc Q (pc + 1) lv st (w.set a (.inl (0, n, .inl (upd f k x))))) : ok d own nL ini ret cc Q pc lv (.int x :: .int (nI k) :: .ref a :: st) w := by
  have h1 : ev_in (nI k) n = true := decide_eq_true (vp_in_nI hk hn)
  have hx : vp_nar .int x = x := rfl
  have hc := nI_clamp (Nat.lt_trans hk hn)
  refine ok_h (w' := w.set a (.inl (0, n, .inl (upd f k x)))) hd (fun f => ?_) h
  simp [ev_h, ev_si, hw, h1, ev_atyL, hx, hc]
theorem ok_zastS {a n k : Nat} {f : Nat → Int32} {x : Int32} (hd : decode cc pc = .ok (.bastore, 1)) (hw : w[a]? = some (.inl (2, n, .inl f))) (hx : x = 0 ∨ x = 1) (hk : k < n) (hn : n < 2 ^ 31) (h : ok d own nL ini ret cc Q (pc + 1) lv st (w.set a (.inl (2, n, .inl (upd f k x))))) : ok d own nL ini ret cc Q pc lv (.int x :: .int (nI k) :: .ref a :: st) w := by
  have h1 : ev_in (nI k) n = true := decide_eq_true (vp_in_nI hk hn)
  have hx : vp_nar .boolean x = x := by rcases hx with rfl | rfl <;> decide
  have hc := nI_clamp (Nat.lt_trans hk hn)
  refine ok_h (w' := w.set a (.inl (2, n, .inl (upd f k x)))) hd (fun f => ?_) h
  simp [ev_h, ev_si, hw, h1, ev_atyL, hx, hc]
theorem ok_lastS {a n k : Nat} {f : Nat → Int64} {x : Int64} (hd : decode cc pc = .ok (.lastore, 1)) (hw : w[a]? = some (.inl (1, n, .inr (.inl f)))) (hk : k < n) (hn : n < 2 ^ 31) (h : ok d own nL ini ret cc Q (pc + 1) lv st (w.set a (.inl (1, n, .inr (.inl (vp_updL f k x)))))) : ok d own nL ini ret cc Q pc lv (.long x :: .int (nI k) :: .ref a :: st) w := by
  have h1 : ev_in (nI k) n = true := decide_eq_true (vp_in_nI hk hn)
  have hc := nI_clamp (Nat.lt_trans hk hn)
  refine ok_h (w' := w.set a (.inl (1, n, .inr (.inl (vp_updL f k x))))) hd (fun f => ?_) h
  simp [ev_h, ev_sl, hw, h1, ev_atyL, hc]
theorem ok_putS {x a ci k q0 : Nat} {fs : List Value} {v : Value} {ty : FieldType} (hd : decode cc pc = .ok (.putfield x, 3)) (hf : ev_fld own x = some (ci, k, q0)) (hw : w[a]? = some (.inr (ci, fs))) (hty : (ev_cty ci)[k]? = some ty) (hfin : ev_fin ci k = false) (hfit : ev_fit ty v = true) (hk : k < fs.length) (h : ok d own nL ini ret cc Q (pc + 3) lv st (w.set a (.inr (ci, fs.set k v)))) : ok d own nL ini ret cc Q pc lv (v :: .ref a :: st) w := by
  refine ok_h (w' := w.set a (.inr (ci, fs.set k v))) hd (fun f => ?_) h
  simp [ev_h, ev_set, hf, hw, hty, hfin, hfit, hk]
theorem ok_cpyI {x j n0 n1 a0 a1 sp dp n m : Nat} {q : Nat × Nat × Nat} {f g : Nat → Int32} (hd : decode cc pc = .ok (.invokestatic x, 3)) (hm : ev_mth own x = some (2, j, m, q)) (h0 : w[a0]? = some (.inl (0, n0, .inl f))) (h1 : w[a1]? = some (.inl (0, n1, .inl g))) (hs : sp + n ≤ n0) (hp : dp + n ≤ n1) (hn0 : n0 < 2 ^ 31) (hn1 : n1 < 2 ^ 31) (hc : ev_cat st ≤ 8) (h : ok d own nL ini ret cc Q (pc + 3) lv st (w.set a1 (.inl (0, n1, .inl (va_cpy f g sp dp n))))) : ok d own nL ini ret cc Q pc lv (.int (nI n) :: .int (nI dp) :: .ref a1 :: .int (nI sp) :: .ref a0 :: st) w := by
  refine ok_h (w' := w.set a1 (.inl (0, n1, .inl (va_cpy f g sp dp n)))) hd (fun f => ?_) h
  have e1 := nI_clamp (n := sp) (by omega)
  have e2 := nI_clamp (n := dp) (by omega)
  have e3 := nI_clamp (n := n) (by omega)
  have p1 := nI_pos (n := sp) (by omega)
  have p2 := nI_pos (n := dp) (by omega)
  have p3 := nI_pos (n := n) (by omega)
  simp [ev_h, ev_stat, hm, ev_cpy, h0, h1, e1, e2, e3, p1, p2, p3, hc, hs, hp, ev_atyL]
theorem ok_cpyL {x j n0 n1 a0 a1 sp dp n m : Nat} {q : Nat × Nat × Nat} {f g : Nat → Int64} (hd : decode cc pc = .ok (.invokestatic x, 3)) (hm : ev_mth own x = some (2, j, m, q)) (h0 : w[a0]? = some (.inl (1, n0, .inr (.inl f)))) (h1 : w[a1]? = some (.inl (1, n1, .inr (.inl g)))) (hs : sp + n ≤ n0) (hp : dp + n ≤ n1) (hn0 : n0 < 2 ^ 31) (hn1 : n1 < 2 ^ 31) (hc : ev_cat st ≤ 8) (h : ok d own nL ini ret cc Q (pc + 3) lv st (w.set a1 (.inl (1, n1, .inr (.inl (va_cpy f g sp dp n)))))) : ok d own nL ini ret cc Q pc lv (.int (nI n) :: .int (nI dp) :: .ref a1 :: .int (nI sp) :: .ref a0 :: st) w := by
  refine ok_h (w' := w.set a1 (.inl (1, n1, .inr (.inl (va_cpy f g sp dp n))))) hd (fun f => ?_) h
  have e1 := nI_clamp (n := sp) (by omega)
  have e2 := nI_clamp (n := dp) (by omega)
  have e3 := nI_clamp (n := n) (by omega)
  have p1 := nI_pos (n := sp) (by omega)
  have p2 := nI_pos (n := dp) (by omega)
  have p3 := nI_pos (n := n) (by omega)
  simp [ev_h, ev_stat, hm, ev_cpy, h0, h1, e1, e2, e3, p1, p2, p3, hc, hs, hp, ev_atyL]
theorem ok_math {x kd j n : Nat} {q : Nat × Nat × Nat} (hd : decode cc pc = .ok (.invokestatic x, 3)) (hm : ev_mth own x = some (kd, j, n, q)) (hk : 8 ≤ kd) (hh : ev_math kd st = some st') (h : ok d own nL ini ret cc Q (pc + 3) lv st' w) : ok d own nL ini ret cc Q pc lv st w := by
  refine ok_h hd (fun f => ?_) h
  have h2 : ¬ kd = 2 := by omega
  simp [ev_h, ev_stat, hm, h2, hk, hh]
end OKS
section UR
variable {d own nL : Nat} {ini : Bool} {ret : Option FieldType} {cc : ByteArray} {Q : Option Value → uS → Prop} {pc len : Nat} {i : Instr} {lv lv' : ev_L} {st st' : List Value} {u : uS} {x y : Int}
theorem u_of {j : Nat} {nm ds : String} {q0 : Nat} {As : List Value} (hj : ev_mL[j]? = some (own, nm, ds, cc, nL, ret, ini, q0)) (hl : (ev_ent As).length ≤ nL) (h : okU d own nL ini ret cc Q 0 (ev_pad nL (ev_ent As)) [] u) : cU (d + 1) j As u Q := okm_of hj hl h
theorem u_p (hd : decode cc pc = .ok (i, len)) (hp : ev_p own nL i len lv st = some (lv', st')) (h : okU d own nL ini ret cc Q (pc + len) lv' st' u) : okU d own nL ini ret cc Q pc lv st u := ok_p hd hp h
theorem u_ld {v : Value} (hd : decode cc pc = .ok (i, len)) (hp : ev_p own nL i len lv st = some (lv, v :: st)) (h : okU d own nL ini ret cc Q (pc + len) lv (v :: st) u) : okU d own nL ini ret cc Q pc lv st u := ok_p hd hp h
theorem u_sto {v : Value} (hd : decode cc pc = .ok (i, len)) (hp : ev_p own nL i len lv (v :: st) = some (lv', st)) (h : okU d own nL ini ret cc Q (pc + len) lv' st u) : okU d own nL ini ret cc Q pc lv (v :: st) u := ok_p hd hp h
theorem u_st (hd : decode cc pc = .ok (i, len)) (hp : ev_p own nL i len lv st = some (lv, st')) (h : okU d own nL ini ret cc Q (pc + len) lv st' u) : okU d own nL ini ret cc Q pc lv st u := ok_p hd hp h
/-- constants -/
theorem u_c {z : Int32} (hd : decode cc pc = .ok (i, len)) (hp : ev_p own nL i len lv st = some (lv, .int z :: st)) (hz : z = Int32.ofInt x) (h : okU d own nL ini ret cc Q (pc + len) lv (iV x :: st) u) : okU d own nL ini ret cc Q pc lv st u := u_p hd (by rw [hp, hz]) h
theorem u_cl {z : Int64} (hd : decode cc pc = .ok (i, len)) (hp : ev_p own nL i len lv st = some (lv, .long z :: st)) (hz : z = Int64.ofInt x) (h : okU d own nL ini ret cc Q (pc + len) lv (lV x :: st) u) : okU d own nL ini ret cc Q pc lv st u := u_p hd (by rw [hp, hz]) h
theorem u_ldc {c q : Nat} {z : Int32} (hd : decode cc pc = .ok (.ldc c, 2)) (hc : ev_con own c = some (.int z, q)) (hz : z = Int32.ofInt x) (h : okU d own nL ini ret cc Q (pc + 2) lv (iV x :: st) u) : okU d own nL ini ret cc Q pc lv st u := u_p (lv' := lv) (st' := iV x :: st) hd (by simp only [ev_p, hc, hz, if_true]) h
theorem u_ldcw {c q : Nat} {z : Int32} (hd : decode cc pc = .ok (.ldc_w c, 3)) (hc : ev_con own c = some (.int z, q)) (hz : z = Int32.ofInt x) (h : okU d own nL ini ret cc Q (pc + 3) lv (iV x :: st) u) : okU d own nL ini ret cc Q pc lv st u := u_p (lv' := lv) (st' := iV x :: st) hd (by simp only [ev_p, hc, hz, if_true]) h
theorem u_ldc2 {c q : Nat} {z : Int64} (hd : decode cc pc = .ok (.ldc2_w c, 3)) (hc : ev_con own c = some (.long z, q)) (hz : z = Int64.ofInt x) (h : okU d own nL ini ret cc Q (pc + 3) lv (lV x :: st) u) : okU d own nL ini ret cc Q pc lv st u := u_p (lv' := lv) (st' := lV x :: st) hd (by simp only [ev_p, hc, hz, if_true]) h
/-- arithmetic -/
theorem u_ib {z : Int} {c : Int32} (hd : decode cc pc = .ok (i, 1)) (hp : ev_p own nL i 1 lv (iV y :: iV x :: st) = some (lv, .int c :: st)) (hc : Int32.ofInt z = c) (h : okU d own nL ini ret cc Q (pc + 1) lv (iV z :: st) u) : okU d own nL ini ret cc Q pc lv (iV y :: iV x :: st) u := u_p hd (by rw [hp, ← hc]) h
theorem u_lb {z : Int} {c : Int64} (hd : decode cc pc = .ok (i, 1)) (hp : ev_p own nL i 1 lv (lV y :: lV x :: st) = some (lv, .long c :: st)) (hc : Int64.ofInt z = c) (h : okU d own nL ini ret cc Q (pc + 1) lv (lV z :: st) u) : okU d own nL ini ret cc Q pc lv (lV y :: lV x :: st) u := u_p hd (by rw [hp, ← hc]) h
theorem u_ls {z : Int} {c : Int64} (hd : decode cc pc = .ok (i, 1)) (hp : ev_p own nL i 1 lv (iV y :: lV x :: st) = some (lv, .long c :: st)) (hc : Int64.ofInt z = c) (h : okU d own nL ini ret cc Q (pc + 1) lv (lV z :: st) u) : okU d own nL ini ret cc Q pc lv (iV y :: lV x :: st) u := u_p hd (by rw [hp, ← hc]) h
theorem u_iadd (hd : decode cc pc = .ok (.iadd, 1)) (h : okU d own nL ini ret cc Q (pc + 1) lv (iV (x + y) :: st) u) : okU d own nL ini ret cc Q pc lv (iV y :: iV x :: st) u := u_ib hd rfl (Int32.ofInt_add x y) h
theorem u_isub (hd : decode cc pc = .ok (.isub, 1)) (h : okU d own nL ini ret cc Q (pc + 1) lv (iV (x - y) :: st) u) : okU d own nL ini ret cc Q pc lv (iV y :: iV x :: st) u := u_ib hd rfl (Int32.ofInt_sub x y) h
theorem u_imul (hd : decode cc pc = .ok (.imul, 1)) (h : okU d own nL ini ret cc Q (pc + 1) lv (iV (x * y) :: st) u) : okU d own nL ini ret cc Q pc lv (iV y :: iV x :: st) u := u_ib hd rfl (Int32.ofInt_mul x y) h
theorem u_iand (hd : decode cc pc = .ok (.iand, 1)) (h : okU d own nL ini ret cc Q (pc + 1) lv (iV (iand x y) :: st) u) : okU d own nL ini ret cc Q pc lv (iV y :: iV x :: st) u := u_ib hd rfl (Int32.ofInt_toInt _) h
theorem u_ior (hd : decode cc pc = .ok (.ior, 1)) (h : okU d own nL ini ret cc Q (pc + 1) lv (iV (ior x y) :: st) u) : okU d own nL ini ret cc Q pc lv (iV y :: iV x :: st) u := u_ib hd rfl (Int32.ofInt_toInt _) h
theorem u_ixor (hd : decode cc pc = .ok (.ixor, 1)) (h : okU d own nL ini ret cc Q (pc + 1) lv (iV (ixor x y) :: st) u) : okU d own nL ini ret cc Q pc lv (iV y :: iV x :: st) u := u_ib hd rfl (Int32.ofInt_toInt _) h
theorem u_ishl (hd : decode cc pc = .ok (.ishl, 1)) (h : okU d own nL ini ret cc Q (pc + 1) lv (iV (ishl x y) :: st) u) : okU d own nL ini ret cc Q pc lv (iV y :: iV x :: st) u := u_ib hd rfl (Int32.ofInt_toInt _) h
theorem u_iushr (hd : decode cc pc = .ok (.iushr, 1)) (h : okU d own nL ini ret cc Q (pc + 1) lv (iV (iushr x y) :: st) u) : okU d own nL ini ret cc Q pc lv (iV y :: iV x :: st) u := u_ib hd rfl (Int32.ofInt_toInt _) h
theorem u_ladd (hd : decode cc pc = .ok (.ladd, 1)) (h : okU d own nL ini ret cc Q (pc + 1) lv (lV (x + y) :: st) u) : okU d own nL ini ret cc Q pc lv (lV y :: lV x :: st) u := u_lb hd rfl (Int64.ofInt_add x y) h
theorem u_lsub (hd : decode cc pc = .ok (.lsub, 1)) (h : okU d own nL ini ret cc Q (pc + 1) lv (lV (x - y) :: st) u) : okU d own nL ini ret cc Q pc lv (lV y :: lV x :: st) u := u_lb hd rfl (Int64.ofInt_sub x y) h
theorem u_lmul (hd : decode cc pc = .ok (.lmul, 1)) (h : okU d own nL ini ret cc Q (pc + 1) lv (lV (x * y) :: st) u) : okU d own nL ini ret cc Q pc lv (lV y :: lV x :: st) u := u_lb hd rfl (Int64.ofInt_mul x y) h
theorem u_land (hd : decode cc pc = .ok (.land, 1)) (h : okU d own nL ini ret cc Q (pc + 1) lv (lV (land x y) :: st) u) : okU d own nL ini ret cc Q pc lv (lV y :: lV x :: st) u := u_lb hd rfl (Int64.ofInt_toInt _) h
theorem u_lor (hd : decode cc pc = .ok (.lor, 1)) (h : okU d own nL ini ret cc Q (pc + 1) lv (lV (lor x y) :: st) u) : okU d own nL ini ret cc Q pc lv (lV y :: lV x :: st) u := u_lb hd rfl (Int64.ofInt_toInt _) h
theorem u_lxor (hd : decode cc pc = .ok (.lxor, 1)) (h : okU d own nL ini ret cc Q (pc + 1) lv (lV (lxor x y) :: st) u) : okU d own nL ini ret cc Q pc lv (lV y :: lV x :: st) u := u_lb hd rfl (Int64.ofInt_toInt _) h
theorem u_lshl (hd : decode cc pc = .ok (.lshl, 1)) (h : okU d own nL ini ret cc Q (pc + 1) lv (lV (lshl x y) :: st) u) : okU d own nL ini ret cc Q pc lv (iV y :: lV x :: st) u := u_ls hd rfl (Int64.ofInt_toInt _) h
theorem u_lshr (hd : decode cc pc = .ok (.lshr, 1)) (h : okU d own nL ini ret cc Q (pc + 1) lv (lV (lshr x y) :: st) u) : okU d own nL ini ret cc Q pc lv (iV y :: lV x :: st) u := u_ls hd rfl (Int64.ofInt_toInt _) h
theorem u_lushr (hd : decode cc pc = .ok (.lushr, 1)) (h : okU d own nL ini ret cc Q (pc + 1) lv (lV (lushr x y) :: st) u) : okU d own nL ini ret cc Q pc lv (iV y :: lV x :: st) u := u_ls hd rfl (Int64.ofInt_toInt _) h
theorem nz32 {y : Int} (hy : rI y) (h0 : y ≠ 0) : ¬ Int32.ofInt y = 0 := fun e => h0 (by rw [← ti hy, e]; rfl)
theorem nz64 {y : Int} (hy : rL y) (h0 : y ≠ 0) : ¬ Int64.ofInt y = 0 := fun e => h0 (by rw [← tl hy, e]; rfl)
theorem div32 {x y : Int} (hx : rI x) (hy : rI y) : Int32.ofInt (x.tdiv y) = Int32.ofInt x / Int32.ofInt y := Int32.ofInt_tdiv (by have := hx.1; simpa using this) (by have := hx.2; simp [Int32.toInt_maxValue]; omega) (by have := hy.1; simpa using this) (by have := hy.2; simp [Int32.toInt_maxValue]; omega)
theorem div64 {x y : Int} (hx : rL x) (hy : rL y) : Int64.ofInt (x.tdiv y) = Int64.ofInt x / Int64.ofInt y := Int64.ofInt_tdiv (by have := hx.1; simpa using this) (by have := hx.2; simp [Int64.toInt_maxValue]; omega) (by have := hy.1; simpa using this) (by have := hy.2; simp [Int64.toInt_maxValue]; omega)
theorem u_idiv (hd : decode cc pc = .ok (.idiv, 1)) (hx : rI x) (hy : rI y) (h0 : y ≠ 0) (h : okU d own nL ini ret cc Q (pc + 1) lv (iV (x.tdiv y) :: st) u) : okU d own nL ini ret cc Q pc lv (iV y :: iV x :: st) u := u_p (lv' := lv) (st' := iV (x.tdiv y) :: st) hd (by
  show (if (1 : Nat) = 1 then (ev_ibin .idiv (Int32.ofInt x) (Int32.ofInt y)).map (fun z => (lv, Value.int z :: st)) else none) = _
  rw [if_pos rfl]
  unfold ev_ibin
  simp only
  rw [if_neg (nz32 hy h0), ← div32 hx hy]
  rfl) h
theorem u_irem (hd : decode cc pc = .ok (.irem, 1)) (hx : rI x) (hy : rI y) (h0 : y ≠ 0) (h : okU d own nL ini ret cc Q (pc + 1) lv (iV (x.tmod y) :: st) u) : okU d own nL ini ret cc Q pc lv (iV y :: iV x :: st) u := u_p (lv' := lv) (st' := iV (x.tmod y) :: st) hd (by
  show (if (1 : Nat) = 1 then (ev_ibin .irem (Int32.ofInt x) (Int32.ofInt y)).map (fun z => (lv, Value.int z :: st)) else none) = _
  rw [if_pos rfl]
  unfold ev_ibin
  simp only
  rw [if_neg (nz32 hy h0), ← div32 hx hy, ← Int32.ofInt_mul, ← Int32.ofInt_sub, show x - x.tdiv y * y = x.tmod y from by rw [Int.tmod_def, Int.mul_comm]]
  rfl) h
theorem u_ldiv (hd : decode cc pc = .ok (.ldiv, 1)) (hx : rL x) (hy : rL y) (h0 : y ≠ 0) (h : okU d own nL ini ret cc Q (pc + 1) lv (lV (x.tdiv y) :: st) u) : okU d own nL ini ret cc Q pc lv (lV y :: lV x :: st) u := u_p (lv' := lv) (st' := lV (x.tdiv y) :: st) hd (by
  show (if (1 : Nat) = 1 then (ev_lbin .ldiv (Int64.ofInt x) (Int64.ofInt y)).map (fun z => (lv, Value.long z :: st)) else none) = _
  rw [if_pos rfl]
  unfold ev_lbin
  simp only
  rw [if_neg (nz64 hy h0), ← div64 hx hy]
  rfl) h
theorem u_i2l (hd : decode cc pc = .ok (.i2l, 1)) (hx : rI x) (h : okU d own nL ini ret cc Q (pc + 1) lv (lV x :: st) u) : okU d own nL ini ret cc Q pc lv (iV x :: st) u := u_p (lv' := lv) (st' := lV x :: st) hd (by
  have e : (Int32.ofInt x).toInt64 = Int64.ofInt x := by rw [← Int64.toInt_inj, Int32.toInt_toInt64, ti hx, tl ⟨by have := hx.1; omega, by have := hx.2; omega⟩]
  show (if (1 : Nat) = 1 then some (lv, Value.long (Int32.ofInt x).toInt64 :: st) else none) = _
  rw [if_pos rfl, e]) h
theorem u_l2i (hd : decode cc pc = .ok (.l2i, 1)) (h : okU d own nL ini ret cc Q (pc + 1) lv (iV x :: st) u) : okU d own nL ini ret cc Q pc lv (lV x :: st) u := u_p (lv' := lv) (st' := iV x :: st) hd (by
  show (if (1 : Nat) = 1 then some (lv, Value.int (Int64.ofInt x).toInt32 :: st) else none) = _
  rw [if_pos rfl, Int64.toInt32_ofInt]) h
theorem u_l2w (hd : decode cc pc = .ok (.l2i, 1)) (h : okU d own nL ini ret cc Q (pc + 1) lv (iV (wI x) :: st) u) : okU d own nL ini ret cc Q pc lv (lV x :: st) u := u_l2i hd (by
  have e : iV (wI x) = iV x := congrArg Value.int (Int32.ofInt_toInt _)
  rw [e] at h
  exact h)
theorem u_inc {j : Nat} {z : Int} (hd : decode cc pc = .ok (.iinc j z, 3)) (hj : lv[j]? = some (iV x)) (hl : j < nL) (hs : ev_put1 j (iV (x + z)) lv = lv') (h : okU d own nL ini ret cc Q (pc + 3) lv' st u) : okU d own nL ini ret cc Q pc lv st u := u_p (lv' := lv') (st' := st) hd (by
  show (if (3 : Nat) = 3 then ev_inc nL j z lv st else none) = _
  rw [if_pos rfl]
  unfold ev_inc
  rw [hj]
  show (if j < nL then some (ev_put1 j (.int (Int32.ofInt x + Int32.ofInt z)) lv, st) else none) = _
  rw [if_pos hl, ← Int32.ofInt_add, ← hs]) h
/-- fields -/
theorem u_gI {m a ci k q0 : Nat} {z : Int} (hd : decode cc pc = .ok (.getfield m, 3)) (hf : ev_fld own m = some (ci, k, q0)) (ho : isO a ci) (hk : (fk ci)[k]? = some 0) (hz : (k : Int) = z) (h : okU d own nL ini ret cc Q (pc + 3) lv (iV (u.1 a z) :: st) u) : okU d own nL ini ret cc Q pc lv (.ref a :: st) u := ok_get hd hf (wo_obj ho) (fvs_get hk) (by subst hz; exact h)
theorem u_gZ {m a ci k q0 : Nat} {z : Int} (hd : decode cc pc = .ok (.getfield m, 3)) (hf : ev_fld own m = some (ci, k, q0)) (ho : isO a ci) (hk : (fk ci)[k]? = some 2) (hz : (k : Int) = z) (h : okU d own nL ini ret cc Q (pc + 3) lv (iV (u.1 a z) :: st) u) : okU d own nL ini ret cc Q pc lv (.ref a :: st) u := ok_get hd hf (wo_obj ho) (fvs_get hk) (by subst hz; exact h)
theorem u_gL {m a ci k q0 : Nat} {z : Int} (hd : decode cc pc = .ok (.getfield m, 3)) (hf : ev_fld own m = some (ci, k, q0)) (ho : isO a ci) (hk : (fk ci)[k]? = some 1) (hz : (k : Int) = z) (h : okU d own nL ini ret cc Q (pc + 3) lv (lV (u.1 a z) :: st) u) : okU d own nL ini ret cc Q pc lv (.ref a :: st) u := ok_get hd hf (wo_obj ho) (fvs_get hk) (by subst hz; exact h)
theorem u_gR {m a ci k q0 : Nat} {z : Int} (hd : decode cc pc = .ok (.getfield m, 3)) (hf : ev_fld own m = some (ci, k, q0)) (ho : isO a ci) (hk : (fk ci)[k]? = some 3) (hz : (k : Int) = z) (h : okU d own nL ini ret cc Q (pc + 3) lv (.ref (u.2 a z) :: st) u) : okU d own nL ini ret cc Q pc lv (.ref a :: st) u := ok_get hd hf (wo_obj ho) (fvs_get hk) (by subst hz; exact h)
theorem u_gS {m a ci k q0 o p : Nat} (hd : decode cc pc = .ok (.getfield m, 3)) (hf : ev_fld own m = some (ci, k, q0)) (ho : isO a ci) (hk : (fk ci)[k]? = some (o + 4)) (hz : a + o = p) (h : okU d own nL ini ret cc Q (pc + 3) lv (.ref p :: st) u) : okU d own nL ini ret cc Q pc lv (.ref a :: st) u := ok_get hd hf (wo_obj ho) (fvs_get hk) (by subst hz; exact h)
theorem fvs_len {u : uS} {a ci k kd : Nat} (hk : (fk ci)[k]? = some kd) : k < (fvs u a ci).length := by
  rw [List.length_mapIdx]
  exact (List.getElem?_eq_some_iff.mp hk).1
theorem u_pI {m a ci k q0 : Nat} {z : Int} (hd : decode cc pc = .ok (.putfield m, 3)) (hf : ev_fld own m = some (ci, k, q0)) (ho : isO a ci) (hk : (fk ci)[k]? = some 0) (hty : (ev_cty ci)[k]? = some .int) (hfin : ev_fin ci k = false) (hz : (k : Int) = z) (h : ∀ u' : uS, u' = wr u a z x → okU d own nL ini ret cc Q (pc + 3) lv st u') : okU d own nL ini ret cc Q pc lv (iV x :: .ref a :: st) u := ok_putS hd hf (wo_obj ho) hty hfin rfl (fvs_len hk) (by subst hz; rw [wo_put (x := x) ho hk (by simp only [fv, wr_self])]; exact h _ rfl)
theorem fit01 {x : Int} (hx : x = 0 ∨ x = 1) : ev_fit .boolean (iV x) = true := by rcases hx with rfl | rfl <;> rfl
theorem u_pZ {m a ci k q0 : Nat} {z : Int} (hd : decode cc pc = .ok (.putfield m, 3)) (hf : ev_fld own m = some (ci, k, q0)) (ho : isO a ci) (hk : (fk ci)[k]? = some 2) (hty : (ev_cty ci)[k]? = some .boolean) (hfin : ev_fin ci k = false) (hz : (k : Int) = z) (hx : x = 0 ∨ x = 1) (h : ∀ u' : uS, u' = wr u a z x → okU d own nL ini ret cc Q (pc + 3) lv st u') : okU d own nL ini ret cc Q pc lv (iV x :: .ref a :: st) u := ok_putS hd hf (wo_obj ho) hty hfin (fit01 hx) (fvs_len hk) (by subst hz; rw [wo_put (x := x) ho hk (by simp only [fv, wr_self])]; exact h _ rfl)
theorem u_pL {m a ci k q0 : Nat} {z : Int} (hd : decode cc pc = .ok (.putfield m, 3)) (hf : ev_fld own m = some (ci, k, q0)) (ho : isO a ci) (hk : (fk ci)[k]? = some 1) (hty : (ev_cty ci)[k]? = some .long) (hfin : ev_fin ci k = false) (hz : (k : Int) = z) (h : ∀ u' : uS, u' = wr u a z x → okU d own nL ini ret cc Q (pc + 3) lv st u') : okU d own nL ini ret cc Q pc lv (lV x :: .ref a :: st) u := ok_putS hd hf (wo_obj ho) hty hfin rfl (fvs_len hk) (by subst hz; rw [wo_put (x := x) ho hk (by simp only [fv, wr_self])]; exact h _ rfl)
theorem u_pR {m a ci k q0 p : Nat} {z : Int} {ty : FieldType} (hd : decode cc pc = .ok (.putfield m, 3)) (hf : ev_fld own m = some (ci, k, q0)) (ho : isO a ci) (hk : (fk ci)[k]? = some 3) (hty : (ev_cty ci)[k]? = some ty) (hfin : ev_fin ci k = false) (hfit : ev_fit ty (.ref p) = true) (hz : (k : Int) = z) (h : ∀ u' : uS, u' = wq u a z p → okU d own nL ini ret cc Q (pc + 3) lv st u') : okU d own nL ini ret cc Q pc lv (.ref p :: .ref a :: st) u := ok_putS hd hf (wo_obj ho) hty hfin hfit (fvs_len hk) (by subst hz; rw [wo_puq ho hk]; exact h _ rfl)
/-- arrays -/
theorem u_iald {p n : Nat} (hd : decode cc pc = .ok (.iaload, 1)) (hA : isA p 0 n) (h0 : 0 ≤ x) (h1 : x < n) (h : okU d own nL ini ret cc Q (pc + 1) lv (iV (u.1 p x) :: st) u) : okU d own nL ini ret cc Q pc lv (iV x :: .ref p :: st) u := by
  obtain ⟨k, rfl, hk⟩ := ix_nat h0 h1
  rw [iV_nat]
  exact ok_ildn hd (wo_get hA) hk (sh_n hA) h
theorem u_zald {p n : Nat} (hd : decode cc pc = .ok (.baload, 1)) (hA : isA p 2 n) (h0 : 0 ≤ x) (h1 : x < n) (h : okU d own nL ini ret cc Q (pc + 1) lv (iV (u.1 p x) :: st) u) : okU d own nL ini ret cc Q pc lv (iV x :: .ref p :: st) u := by
  obtain ⟨k, rfl, hk⟩ := ix_nat h0 h1
  have hn : n < 2 ^ 31 := sh_n hA
  rw [iV_nat]
  exact ok_zald hd (wo_get hA) (vp_in_nI hk hn) (by rw [nI_clamp (Nat.lt_trans hk hn)]; exact h)
theorem u_lald {p n : Nat} (hd : decode cc pc = .ok (.laload, 1)) (hA : isA p 1 n) (h0 : 0 ≤ x) (h1 : x < n) (h : okU d own nL ini ret cc Q (pc + 1) lv (lV (u.1 p x) :: st) u) : okU d own nL ini ret cc Q pc lv (iV x :: .ref p :: st) u := by
  obtain ⟨k, rfl, hk⟩ := ix_nat h0 h1
  have hn : n < 2 ^ 31 := sh_n hA
  rw [iV_nat]
  exact ok_lald hd (wo_get hA) (vp_in_nI hk hn) (by rw [nI_clamp (Nat.lt_trans hk hn)]; exact h)
theorem u_aald3 {p n o s r : Nat} (hd : decode cc pc = .ok (.aaload, 1)) (hA : isR p 3 n o s) (h0 : 0 ≤ x) (h1 : x < n) (hr : p + o + s * x.toNat = r) (h : okU d own nL ini ret cc Q (pc + 1) lv (.ref r :: st) u) : okU d own nL ini ret cc Q pc lv (iV x :: .ref p :: st) u := by
  obtain ⟨k, rfl, hk⟩ := ix_nat h0 h1
  have hn : n < 2 ^ 31 := sh_n hA
  rw [iV_nat]
  exact ok_aald hd (wo_get hA) rfl (vp_in_nI hk hn) (by rw [nI_clamp (Nat.lt_trans hk hn)]; exact if_pos hk) (by subst hr; exact h)
theorem u_aald4 {p n o s r : Nat} (hd : decode cc pc = .ok (.aaload, 1)) (hA : isR p 4 n o s) (h0 : 0 ≤ x) (h1 : x < n) (hr : p + o + s * x.toNat = r) (h : okU d own nL ini ret cc Q (pc + 1) lv (.ref r :: st) u) : okU d own nL ini ret cc Q pc lv (iV x :: .ref p :: st) u := by
  obtain ⟨k, rfl, hk⟩ := ix_nat h0 h1
  have hn : n < 2 ^ 31 := sh_n hA
  rw [iV_nat]
  exact ok_aald hd (wo_get hA) rfl (vp_in_nI hk hn) (by rw [nI_clamp (Nat.lt_trans hk hn)]; exact if_pos hk) (by subst hr; exact h)
theorem u_iast {p n : Nat} (hd : decode cc pc = .ok (.iastore, 1)) (hA : isA p 0 n) (h0 : 0 ≤ x) (h1 : x < n) (h : ∀ u' : uS, u' = wr u p x y → okU d own nL ini ret cc Q (pc + 1) lv st u') : okU d own nL ini ret cc Q pc lv (iV y :: iV x :: .ref p :: st) u := by
  obtain ⟨k, rfl, hk⟩ := ix_nat h0 h1
  rw [iV_nat k]
  exact ok_iastS hd (wo_get hA) hk (sh_n hA) (by rw [wo_st0 hA]; exact h _ rfl)
theorem u_zast {p n : Nat} (hd : decode cc pc = .ok (.bastore, 1)) (hA : isA p 2 n) (h0 : 0 ≤ x) (h1 : x < n) (hy : y = 0 ∨ y = 1) (h : ∀ u' : uS, u' = wr u p x y → okU d own nL ini ret cc Q (pc + 1) lv st u') : okU d own nL ini ret cc Q pc lv (iV y :: iV x :: .ref p :: st) u := by
  obtain ⟨k, rfl, hk⟩ := ix_nat h0 h1
  rw [iV_nat k]
  exact ok_zastS hd (wo_get hA) (by rcases hy with rfl | rfl; exact Or.inl rfl; exact Or.inr rfl) hk (sh_n hA) (by rw [wo_st2 hA]; exact h _ rfl)
theorem u_last {p n : Nat} (hd : decode cc pc = .ok (.lastore, 1)) (hA : isA p 1 n) (h0 : 0 ≤ x) (h1 : x < n) (h : ∀ u' : uS, u' = wr u p x y → okU d own nL ini ret cc Q (pc + 1) lv st u') : okU d own nL ini ret cc Q pc lv (lV y :: iV x :: .ref p :: st) u := by
  obtain ⟨k, rfl, hk⟩ := ix_nat h0 h1
  rw [iV_nat k]
  exact ok_lastS hd (wo_get hA) hk (sh_n hA) (by rw [wo_st1 hA]; exact h _ rfl)
theorem u_alen {p t n : Nat} (hd : decode cc pc = .ok (.arraylength, 1)) (hA : isA p t n) (ht : t < 3) (h : okU d own nL ini ret cc Q (pc + 1) lv (iV n :: st) u) : okU d own nL ini ret cc Q pc lv (.ref p :: st) u := by
  have hw := wo_get (u := u) hA
  rw [iV_nat] at h
  have h3 : t = 0 ∨ t = 1 ∨ t = 2 := by omega
  rcases h3 with h3 | h3 | h3
  · rw [h3] at hw
    exact ok_alen hd hw (by decide) h
  · rw [h3] at hw
    exact ok_alen hd hw (by decide) h
  · rw [h3] at hw
    exact ok_alen hd hw (by decide) h
/-- branches -/
theorem u_ifT {P : Prop} {c : Jvm.ClassFile.Cond} {o : Int} {tgt : Nat} {z : Int32} (hd : decode cc pc = .ok (.ifCond c o, 3)) (ht : (pc : Int) + o = (tgt : Int)) (hP : ev_cond c z 0 = true ↔ P) (kt : P → okU d own nL ini ret cc Q tgt lv st u) (kf : ¬ P → okU d own nL ini ret cc Q (pc + 3) lv st u) : okU d own nL ini ret cc Q pc lv (.int z :: st) u := ok_if hd ht hP kt kf
theorem u_icT {P : Prop} {c : Jvm.ClassFile.Cond} {o : Int} {tgt : Nat} {z t : Int32} (hd : decode cc pc = .ok (.if_icmp c o, 3)) (ht : (pc : Int) + o = (tgt : Int)) (hP : ev_cond c z t = true ↔ P) (kt : P → okU d own nL ini ret cc Q tgt lv st u) (kf : ¬ P → okU d own nL ini ret cc Q (pc + 3) lv st u) : okU d own nL ini ret cc Q pc lv (.int t :: .int z :: st) u := ok_icmp hd ht hP kt kf
theorem u_ifF {P : Prop} [Decidable P] {c : Jvm.ClassFile.Cond} {o : Int} {tgt : Nat} {z : Int32} (hd : decode cc pc = .ok (.ifCond c o, 3)) (ht : (pc : Int) + o = (tgt : Int)) (hP : ev_cond c z 0 = true ↔ ¬ P) (kf : P → okU d own nL ini ret cc Q (pc + 3) lv st u) (kt : ¬ P → okU d own nL ini ret cc Q tgt lv st u) : okU d own nL ini ret cc Q pc lv (.int z :: st) u := ok_if hd ht hP kt (fun h => kf (Decidable.not_not.mp h))
theorem u_icF {P : Prop} [Decidable P] {c : Jvm.ClassFile.Cond} {o : Int} {tgt : Nat} {z t : Int32} (hd : decode cc pc = .ok (.if_icmp c o, 3)) (ht : (pc : Int) + o = (tgt : Int)) (hP : ev_cond c z t = true ↔ ¬ P) (kf : P → okU d own nL ini ret cc Q (pc + 3) lv st u) (kt : ¬ P → okU d own nL ini ret cc Q tgt lv st u) : okU d own nL ini ret cc Q pc lv (.int t :: .int z :: st) u := ok_icmp hd ht hP kt (fun h => kf (Decidable.not_not.mp h))
theorem u_goto {o : Int} {tgt : Nat} (hd : decode cc pc = .ok (.goto o, 3)) (ht : (pc : Int) + o = (tgt : Int)) (h : okU d own nL ini ret cc Q tgt lv st u) : okU d own nL ini ret cc Q pc lv st u := ok_goto hd ht h
theorem u_ts {e lo hi o : Int} {os : Array Int} {tgt : Nat} (hd : decode cc pc = .ok (.tableswitch e lo hi os, len)) (hx : rI x) (hlo : ¬ (x < lo ∨ hi < x)) (ho : os[(x - lo).toNat]? = some o) (ht : (pc : Int) + o = (tgt : Int)) (h : okU d own nL ini ret cc Q tgt lv st u) : okU d own nL ini ret cc Q pc lv (iV x :: st) u := ok_b (pc' := tgt) (st' := st) hd (by
  have h0 : 0 ≤ (pc : Int) + o := by omega
  simp only [ev_b, ti hx]
  rw [if_neg hlo, ho]
  simp only
  rw [if_pos h0, ht]
  rfl) h
theorem u_td {e lo hi : Int} {os : Array Int} {tgt : Nat} (hd : decode cc pc = .ok (.tableswitch e lo hi os, len)) (hx : rI x) (hlo : x < lo ∨ hi < x) (ht : (pc : Int) + e = (tgt : Int)) (h : okU d own nL ini ret cc Q tgt lv st u) : okU d own nL ini ret cc Q pc lv (iV x :: st) u := ok_b (pc' := tgt) (st' := st) hd (by
  have h0 : 0 ≤ (pc : Int) + e := by omega
  simp only [ev_b, ti hx]
  rw [if_pos hlo, if_pos h0, ht]
  rfl) h
theorem lo_ne {a o k e : Int} {r : List (Int × Int)} (h : ¬ k = a) : Op.lookupswitch.offset ((a, o) :: r) e k = Op.lookupswitch.offset r e k := by rw [Op.lookupswitch.offset_cons, if_neg (fun q => h q.symm)]
theorem lo_eq {a o k e : Int} {r : List (Int × Int)} (h : k = a) : Op.lookupswitch.offset ((a, o) :: r) e k = o := by rw [Op.lookupswitch.offset_cons, if_pos h.symm]
theorem u_lsw {e o : Int} {ps : Array (Int × Int)} {l : List (Int × Int)} {tgt : Nat} (hd : decode cc pc = .ok (.lookupswitch e ps, len)) (hl : ps.toList = l) (hs : (l.zip (l.drop 1)).all (fun (a, next) => a.1 < next.1) = true) (hx : rI x) (ho : Op.lookupswitch.offset l e x = o) (ht : (pc : Int) + o = (tgt : Int)) (h : okU d own nL ini ret cc Q tgt lv st u) : okU d own nL ini ret cc Q pc lv (iV x :: st) u := ok_b (pc' := tgt) (st' := st) hd (by
  have h0 : 0 ≤ (pc : Int) + o := by omega
  simp only [ev_b, ti hx, hl, ho]
  rw [if_pos ⟨hs, h0⟩, ht]
  rfl) h
/-- calls -/
theorem u_cs {P : Option Value → uS → Prop} {m kd j n : Nat} {q : Nat × Nat × Nat} {As st2 : List Value} (hd : decode cc pc = .ok (.invokestatic m, 3)) (hm : ev_mth own m = some (kd, j, n, q)) (hk : kd = 0 ∨ kd = 5) (hp : ev_pop n [] st = some (As, st2)) (hc : ev_cat st2 ≤ 8) (hM : cU d j As u P) (h : ∀ v u', P v u' → okU d own nL ini ret cc Q (pc + 3) lv (v.toList ++ st2) u') : okU d own nL ini ret cc Q pc lv st u := ok_cs hd hm hk hp hc hM (fun v w' hq => by obtain ⟨u', e, hP⟩ := hq; rw [e]; exact h v u' hP)
theorem u_cv {P : Option Value → uS → Prop} {m kd j n rb ci : Nat} {q : Nat × Nat × Nat} {qm : ev_MT} {As st2 : List Value} (hd : decode cc pc = .ok (.invokevirtual m, 3)) (hm : ev_mth own m = some (kd, j, n, q)) (hk : kd = 3 ∨ kd = 6) (hp : ev_pop n [] st = some (As, .ref rb :: st2)) (hc : ev_cat st2 ≤ 8) (ho : isO rb ci) (hq : ev_mL[j]? = some qm) (hci : ci = qm.1) (hM : cU d j (.ref rb :: As) u P) (h : ∀ v u', P v u' → okU d own nL ini ret cc Q (pc + 3) lv (v.toList ++ st2) u') : okU d own nL ini ret cc Q pc lv st u := ok_cv hd hm hk hp hc (wo_obj ho) hq hci hM (fun v w' hq => by obtain ⟨u', e, hP⟩ := hq; rw [e]; exact h v u' hP)
theorem u_csI {P : Int → uS → Prop} {m kd j n : Nat} {q : Nat × Nat × Nat} {As st2 : List Value} (hd : decode cc pc = .ok (.invokestatic m, 3)) (hm : ev_mth own m = some (kd, j, n, q)) (hk : kd = 0 ∨ kd = 5) (hp : ev_pop n [] st = some (As, st2)) (hc : ev_cat st2 ≤ 8) (hM : cI d j As u P) (h : ∀ v u', P v u' → okU d own nL ini ret cc Q (pc + 3) lv (iV v :: st2) u') : okU d own nL ini ret cc Q pc lv st u := u_cs hd hm hk hp hc hM (fun _ u' ⟨x, e, hP⟩ => by subst e; exact h x u' hP)
theorem u_csL {P : Int → uS → Prop} {m kd j n : Nat} {q : Nat × Nat × Nat} {As st2 : List Value} (hd : decode cc pc = .ok (.invokestatic m, 3)) (hm : ev_mth own m = some (kd, j, n, q)) (hk : kd = 0 ∨ kd = 5) (hp : ev_pop n [] st = some (As, st2)) (hc : ev_cat st2 ≤ 8) (hM : cL d j As u P) (h : ∀ v u', P v u' → okU d own nL ini ret cc Q (pc + 3) lv (lV v :: st2) u') : okU d own nL ini ret cc Q pc lv st u := u_cs hd hm hk hp hc hM (fun _ u' ⟨x, e, hP⟩ => by subst e; exact h x u' hP)
theorem u_csV {P : uS → Prop} {m kd j n : Nat} {q : Nat × Nat × Nat} {As st2 : List Value} (hd : decode cc pc = .ok (.invokestatic m, 3)) (hm : ev_mth own m = some (kd, j, n, q)) (hk : kd = 0 ∨ kd = 5) (hp : ev_pop n [] st = some (As, st2)) (hc : ev_cat st2 ≤ 8) (hM : cV d j As u P) (h : ∀ u', P u' → okU d own nL ini ret cc Q (pc + 3) lv st2 u') : okU d own nL ini ret cc Q pc lv st u := u_cs hd hm hk hp hc hM (fun _ u' ⟨e, hP⟩ => by subst e; exact h u' hP)
theorem u_cvI {P : Int → uS → Prop} {m kd j n rb ci : Nat} {q : Nat × Nat × Nat} {qm : ev_MT} {As st2 : List Value} (hd : decode cc pc = .ok (.invokevirtual m, 3)) (hm : ev_mth own m = some (kd, j, n, q)) (hk : kd = 3 ∨ kd = 6) (hp : ev_pop n [] st = some (As, .ref rb :: st2)) (hc : ev_cat st2 ≤ 8) (ho : isO rb ci) (hq : ev_mL[j]? = some qm) (hci : ci = qm.1) (hM : cI d j (.ref rb :: As) u P) (h : ∀ v u', P v u' → okU d own nL ini ret cc Q (pc + 3) lv (iV v :: st2) u') : okU d own nL ini ret cc Q pc lv st u := u_cv hd hm hk hp hc ho hq hci hM (fun _ u' ⟨x, e, hP⟩ => by subst e; exact h x u' hP)
theorem u_cvL {P : Int → uS → Prop} {m kd j n rb ci : Nat} {q : Nat × Nat × Nat} {qm : ev_MT} {As st2 : List Value} (hd : decode cc pc = .ok (.invokevirtual m, 3)) (hm : ev_mth own m = some (kd, j, n, q)) (hk : kd = 3 ∨ kd = 6) (hp : ev_pop n [] st = some (As, .ref rb :: st2)) (hc : ev_cat st2 ≤ 8) (ho : isO rb ci) (hq : ev_mL[j]? = some qm) (hci : ci = qm.1) (hM : cL d j (.ref rb :: As) u P) (h : ∀ v u', P v u' → okU d own nL ini ret cc Q (pc + 3) lv (lV v :: st2) u') : okU d own nL ini ret cc Q pc lv st u := u_cv hd hm hk hp hc ho hq hci hM (fun _ u' ⟨x, e, hP⟩ => by subst e; exact h x u' hP)
theorem u_cvR {P : Nat → uS → Prop} {m kd j n rb ci : Nat} {q : Nat × Nat × Nat} {qm : ev_MT} {As st2 : List Value} (hd : decode cc pc = .ok (.invokevirtual m, 3)) (hm : ev_mth own m = some (kd, j, n, q)) (hk : kd = 3 ∨ kd = 6) (hp : ev_pop n [] st = some (As, .ref rb :: st2)) (hc : ev_cat st2 ≤ 8) (ho : isO rb ci) (hq : ev_mL[j]? = some qm) (hci : ci = qm.1) (hM : cR d j (.ref rb :: As) u P) (h : ∀ v u', P v u' → okU d own nL ini ret cc Q (pc + 3) lv (.ref v :: st2) u') : okU d own nL ini ret cc Q pc lv st u := u_cv hd hm hk hp hc ho hq hci hM (fun _ u' ⟨x, e, hP⟩ => by subst e; exact h x u' hP)
theorem u_cvV {P : uS → Prop} {m kd j n rb ci : Nat} {q : Nat × Nat × Nat} {qm : ev_MT} {As st2 : List Value} (hd : decode cc pc = .ok (.invokevirtual m, 3)) (hm : ev_mth own m = some (kd, j, n, q)) (hk : kd = 3 ∨ kd = 6) (hp : ev_pop n [] st = some (As, .ref rb :: st2)) (hc : ev_cat st2 ≤ 8) (ho : isO rb ci) (hq : ev_mL[j]? = some qm) (hci : ci = qm.1) (hM : cV d j (.ref rb :: As) u P) (h : ∀ u', P u' → okU d own nL ini ret cc Q (pc + 3) lv st2 u') : okU d own nL ini ret cc Q pc lv st u := u_cv hd hm hk hp hc ho hq hci hM (fun _ u' ⟨e, hP⟩ => by subst e; exact h u' hP)
/-- natives -/
theorem cpy_fI {u : uS} {p q sp dp n : Nat} : (fun (i : Nat) => Int32.ofInt ((cpy u p sp q dp n).1 q i)) = va_cpy (fun i => Int32.ofInt (u.1 p i)) (fun i => Int32.ofInt (u.1 q i)) sp dp n := by
  funext i
  by_cases h : dp ≤ i ∧ i < dp + n
  · have h1 : (dp : Int) ≤ (i : Int) ∧ (i : Int) < (dp : Int) + (n : Int) := by omega
    have h2 : ((sp + (i - dp) : Nat) : Int) = (sp : Int) + ((i : Int) - (dp : Int)) := by omega
    simp only [cpy, va_cpy, if_pos h, h2, true_and, if_pos h1]
  · have h1 : ¬ ((dp : Int) ≤ (i : Int) ∧ (i : Int) < (dp : Int) + (n : Int)) := by omega
    simp only [cpy, va_cpy, if_neg h, true_and, if_neg h1]
theorem cpy_fL {u : uS} {p q sp dp n : Nat} : (fun (i : Nat) => Int64.ofInt ((cpy u p sp q dp n).1 q i)) = va_cpy (fun i => Int64.ofInt (u.1 p i)) (fun i => Int64.ofInt (u.1 q i)) sp dp n := by
  funext i
  by_cases h : dp ≤ i ∧ i < dp + n
  · have h1 : (dp : Int) ≤ (i : Int) ∧ (i : Int) < (dp : Int) + (n : Int) := by omega
    have h2 : ((sp + (i - dp) : Nat) : Int) = (sp : Int) + ((i : Int) - (dp : Int)) := by omega
    simp only [cpy, va_cpy, if_pos h, h2, true_and, if_pos h1]
  · have h1 : ¬ ((dp : Int) ≤ (i : Int) ∧ (i : Int) < (dp : Int) + (n : Int)) := by omega
    simp only [cpy, va_cpy, if_neg h, true_and, if_neg h1]
theorem wo_cp {u : uS} {p a : Nat} {sp dp n : Int} {s : Nat × Nat × Nat × Nat} {e : va_E} (h : shp[a]? = some s) (he : ent (cpy u p sp a dp n) a s = e) : (wo u).set a e = wo (cpy u p sp a dp n) := by
  rw [← he]
  exact wo_set h (fun b hb => cpy_ne hb) (fun b _ => rfl)
theorem u_cpyI {m j n0 n1 a0 a1 k : Nat} {q : Nat × Nat × Nat} {sp dp n : Int} (hd : decode cc pc = .ok (.invokestatic m, 3)) (hm : ev_mth own m = some (2, j, k, q)) (h0 : isA a0 0 n0) (h1 : isA a1 0 n1) (g1 : 0 ≤ sp) (g2 : 0 ≤ dp) (g3 : 0 ≤ n) (g4 : sp + n ≤ n0) (g5 : dp + n ≤ n1) (hc : ev_cat st ≤ 8) (h : ∀ u' : uS, u' = cpy u a0 sp a1 dp n → okU d own nL ini ret cc Q (pc + 3) lv st u') : okU d own nL ini ret cc Q pc lv (iV n :: iV dp :: .ref a1 :: iV sp :: .ref a0 :: st) u := by
  obtain ⟨sp', rfl⟩ : ∃ k : Nat, sp = (k : Int) := ⟨sp.toNat, by omega⟩
  obtain ⟨dp', rfl⟩ : ∃ k : Nat, dp = (k : Int) := ⟨dp.toNat, by omega⟩
  obtain ⟨n', rfl⟩ : ∃ k : Nat, n = (k : Int) := ⟨n.toNat, by omega⟩
  rw [iV_nat, iV_nat, iV_nat]
  refine ok_cpyI (n0 := n0) (n1 := n1) hd hm (wo_get h0) (wo_get h1) (by omega) (by omega) (sh_n h0) (sh_n h1) hc ?_
  have e : (wo u).set a1 (.inl (0, n1, .inl (va_cpy (fun i => Int32.ofInt (u.1 a0 i)) (fun i => Int32.ofInt (u.1 a1 i)) sp' dp' n'))) = wo (cpy u a0 sp' a1 dp' n') := by
    exact wo_cp h1 (congrArg (fun f => (Sum.inl (0, n1, Sum.inl f) : va_E)) cpy_fI)
  rw [e]
  exact h _ rfl
theorem u_cpyL {m j n0 n1 a0 a1 k : Nat} {q : Nat × Nat × Nat} {sp dp n : Int} (hd : decode cc pc = .ok (.invokestatic m, 3)) (hm : ev_mth own m = some (2, j, k, q)) (h0 : isA a0 1 n0) (h1 : isA a1 1 n1) (g1 : 0 ≤ sp) (g2 : 0 ≤ dp) (g3 : 0 ≤ n) (g4 : sp + n ≤ n0) (g5 : dp + n ≤ n1) (hc : ev_cat st ≤ 8) (h : ∀ u' : uS, u' = cpy u a0 sp a1 dp n → okU d own nL ini ret cc Q (pc + 3) lv st u') : okU d own nL ini ret cc Q pc lv (iV n :: iV dp :: .ref a1 :: iV sp :: .ref a0 :: st) u := by
  obtain ⟨sp', rfl⟩ : ∃ k : Nat, sp = (k : Int) := ⟨sp.toNat, by omega⟩
  obtain ⟨dp', rfl⟩ : ∃ k : Nat, dp = (k : Int) := ⟨dp.toNat, by omega⟩
  obtain ⟨n', rfl⟩ : ∃ k : Nat, n = (k : Int) := ⟨n.toNat, by omega⟩
  rw [iV_nat, iV_nat, iV_nat]
  refine ok_cpyL (n0 := n0) (n1 := n1) hd hm (wo_get h0) (wo_get h1) (by omega) (by omega) (sh_n h0) (sh_n h1) hc ?_
  have e : (wo u).set a1 (.inl (1, n1, .inr (.inl (va_cpy (fun i => Int64.ofInt (u.1 a0 i)) (fun i => Int64.ofInt (u.1 a1 i)) sp' dp' n')))) = wo (cpy u a0 sp' a1 dp' n') := by
    exact wo_cp h1 (congrArg (fun f => (Sum.inl (1, n1, Sum.inr (Sum.inl f)) : va_E)) cpy_fL)
  rw [e]
  exact h _ rfl
theorem u_max {m j n : Nat} {q : Nat × Nat × Nat} (hd : decode cc pc = .ok (.invokestatic m, 3)) (hm : ev_mth own m = some (8, j, n, q)) (hx : rI x) (hy : rI y) (hc : ev_cat st ≤ 8) (h : okU d own nL ini ret cc Q (pc + 3) lv (iV (max x y) :: st) u) : okU d own nL ini ret cc Q pc lv (iV y :: iV x :: st) u := ok_math (st' := iV (max x y) :: st) hd hm (by decide) (by
  have e : Int32.ofInt (max x y) = if Int32.ofInt x < Int32.ofInt y then Int32.ofInt y else Int32.ofInt x := by
    by_cases hxy : x < y
    · rw [if_pos (by rw [Int32.lt_iff_toInt_lt, ti hx, ti hy]; exact hxy), Int.max_eq_right (by omega)]
    · rw [if_neg (by rw [Int32.lt_iff_toInt_lt, ti hx, ti hy]; exact hxy), Int.max_eq_left (by omega)]
  show (if ev_cat st ≤ 8 then (if (8 : Nat) = 8 then some (Value.int (if Int32.ofInt x < Int32.ofInt y then Int32.ofInt y else Int32.ofInt x) :: st) else _) else none) = _
  rw [if_pos hc, if_pos rfl, ← e]) h
theorem u_min {m j n : Nat} {q : Nat × Nat × Nat} (hd : decode cc pc = .ok (.invokestatic m, 3)) (hm : ev_mth own m = some (9, j, n, q)) (hx : rI x) (hy : rI y) (hc : ev_cat st ≤ 8) (h : okU d own nL ini ret cc Q (pc + 3) lv (iV (min x y) :: st) u) : okU d own nL ini ret cc Q pc lv (iV y :: iV x :: st) u := ok_math (st' := iV (min x y) :: st) hd hm (by decide) (by
  have e : Int32.ofInt (min x y) = if Int32.ofInt y < Int32.ofInt x then Int32.ofInt y else Int32.ofInt x := by
    by_cases hxy : y < x
    · rw [if_pos (by rw [Int32.lt_iff_toInt_lt, ti hx, ti hy]; exact hxy), Int.min_eq_right (by omega)]
    · rw [if_neg (by rw [Int32.lt_iff_toInt_lt, ti hx, ti hy]; exact hxy), Int.min_eq_left (by omega)]
  show (if ev_cat st ≤ 8 then (if (9 : Nat) = 8 then _ else if (9 : Nat) = 9 then some (Value.int (if Int32.ofInt y < Int32.ofInt x then Int32.ofInt y else Int32.ofInt x) :: st) else none) else none) = _
  rw [if_pos hc, if_neg (by decide), if_pos rfl, ← e]) h
theorem u_minL {m j n : Nat} {q : Nat × Nat × Nat} (hd : decode cc pc = .ok (.invokestatic m, 3)) (hm : ev_mth own m = some (10, j, n, q)) (hx : rL x) (hy : rL y) (hc : ev_cat st ≤ 8) (h : okU d own nL ini ret cc Q (pc + 3) lv (lV (min x y) :: st) u) : okU d own nL ini ret cc Q pc lv (lV y :: lV x :: st) u := ok_math (st' := lV (min x y) :: st) hd hm (by decide) (by
  have e : Int64.ofInt (min x y) = if Int64.ofInt y < Int64.ofInt x then Int64.ofInt y else Int64.ofInt x := by
    by_cases hxy : y < x
    · rw [if_pos (by rw [Int64.lt_iff_toInt_lt, tl hx, tl hy]; exact hxy), Int.min_eq_right (by omega)]
    · rw [if_neg (by rw [Int64.lt_iff_toInt_lt, tl hx, tl hy]; exact hxy), Int.min_eq_left (by omega)]
  show (if ev_cat st ≤ 8 ∧ (10 : Nat) = 10 then some (Value.long (if Int64.ofInt y < Int64.ofInt x then Int64.ofInt y else Int64.ofInt x) :: st) else none) = _
  rw [if_pos ⟨hc, rfl⟩, ← e]) h
/-- returns -/
theorem u_rI {P : Int → uS → Prop} (hd : decode cc pc = .ok (.ireturn, 1)) (hr : ret = some .int) (h : P x u) : okU d own nL ini ret cc (qI P) pc lv [iV x] u := ok_r (v := some (iV x)) hd (by subst hr; rfl) ⟨u, rfl, x, rfl, h⟩
theorem u_rZ {P : Int → uS → Prop} (hd : decode cc pc = .ok (.ireturn, 1)) (hr : ret = some .boolean) (hx : x = 0 ∨ x = 1) (h : P x u) : okU d own nL ini ret cc (qI P) pc lv [iV x] u := ok_r (v := some (iV x)) hd (by subst hr; rcases hx with rfl | rfl <;> rfl) ⟨u, rfl, x, rfl, h⟩
theorem u_rL {P : Int → uS → Prop} (hd : decode cc pc = .ok (.lreturn, 1)) (hr : ret = some .long) (h : P x u) : okU d own nL ini ret cc (qL P) pc lv [lV x] u := ok_r (v := some (lV x)) hd (by subst hr; rfl) ⟨u, rfl, x, rfl, h⟩
theorem u_rR {P : Nat → uS → Prop} {p : Nat} {C : String} (hd : decode cc pc = .ok (.areturn, 1)) (hr : ret = some (.object C)) (h : P p u) : okU d own nL ini ret cc (qR P) pc lv [.ref p] u := ok_r (v := some (.ref p)) hd (by subst hr; rfl) ⟨u, rfl, p, rfl, h⟩
theorem u_rV {P : uS → Prop} (hd : decode cc pc = .ok (.return_, 1)) (hr : ret = none) (h : P u) : okU d own nL ini ret cc (qV P) pc lv [] u := ok_r (v := none) hd (by subst hr; rfl) ⟨u, rfl, rfl, h⟩
theorem u_weak (hs : ev_sub lv lv') (h : okU d own nL ini ret cc Q pc lv st u) : okU d own nL ini ret cc Q pc lv' st u := ok_weak hs h
end UR
theorem rl_ri {x : Int} (h : rI x) : rL x := ⟨by have := h.1; omega, by have := h.2; omega⟩
