/-! A frame of the machine that holds a frame of the evaluator; steps on locals and stack, branches -/
section EVS
variable {p : Program} {l : Launch} {e : Env} {R : Room} {s : State} {m : MethodId} {args : Array Value} {below : List Frame} {meth : Method} {c : Code} {Q : State → Prop} {D : va_G} {tc : Nat → ClassId} {b nL own : Nat} {cc : ByteArray} {H0 : Heap}
/-- the table facts of a state -/
def ev_isN : Jvm.Cond → Bool
  | .methodLinkNest .. => true
  | _ => false
def ev_U (D : va_G) (tc : Nat → ClassId) (U : State) : Prop := va_K D ev_cl (ev_tys tc) U ∧ (∀ w ∈ lw_tbl, ev_isN w = true → va_Nw w U) ∧ va_AO "GrammarGuard$Machine" U ∧ va_AO "GrammarGuard$Product" U
def ev_ws : List Jvm.Cond := lw_tbl.filter goodWord
/-- a frame of method 'own' with code cc -/
def ev_E (p : Program) (s : State) (m : MethodId) (args : Array Value) (meth : Method) (c : Code) (D : va_G) (tc : Nat → ClassId) (b nL own : Nat) (cc : ByteArray) (H0 : Heap) : Prop :=
  p.tables.exec = Jvm.exec ∧ c.code = cc ∧ c.maxLocals = nL ∧ s.vm.findClass (ev_nm own) = some m.cls ∧ (∀ w ∈ ev_ws, w.before args s = true) ∧ ev_U D tc s ∧ b ≤ H0.size ∧ meth.locks = false
def ev_G (p : Program) (l : Launch) (e : Env) (R : Room) (s : State) (m : MethodId) (args : Array Value) (below : List Frame) (meth : Method) (c : Code) (D : va_G) (tc : Nat → ClassId) (b nL : Nat) (H0 : Heap) (Q : State → Prop) (pc : Nat) (lv : ev_L) (st : List Value) (w : ev_W) (k n : Nat) : Prop :=
  ∀ (H : Heap) (locs : List Loc) (ls : Array Slot), s.heap.size + k = b + w.length → va_P D ev_cl (ev_cw b tc w) H → va_S (fun q => b ≤ q) H0 H locs → lv_has ls nL (ev_ll b lv) → W p l e R s m args below meth c H locs k n Q (F0 m pc ls (st.map (ev_cv b)))
theorem ev_s_ldi {i : Instr} {len j pc k n : Nat} {lv lv' : ev_L} {st st' : List Value} {w : ev_W} (E : ev_E p s m args meth c D tc b nL own cc H0) (hi : (i = .iload j ∧ len = 2) ∨ (∃ q : Fin 4, i = .iload_n q ∧ (q : Nat) = j ∧ len = 1)) (hd : decode cc pc = .ok (i, len)) (h : ev_ldi j lv st = some (lv', st')) (kk : ev_G p l e R s m args below meth c D tc b nL H0 Q (pc + len) lv' st' w k n) : ev_G p l e R s m args below meth c D tc b nL H0 Q pc lv st w k n := by
  obtain ⟨hx, hb, -⟩ := E
  unfold ev_ldi at h
  split at h
  · next x hv =>
    cases h
    intro H locs ls hz hP hS hl
    have h1 := ev_at hl hv (by intro q; cases q)
    rcases hi with ⟨rfl, rfl⟩ | ⟨q, rfl, rfl, rfl⟩
    · exact lv_iload hx hb hd h1 (kk H locs ls hz hP hS hl)
    · exact lv_iload_n hx hb hd rfl h1 (kk H locs ls hz hP hS hl)
  · cases h
theorem ev_s_ldl {i : Instr} {len j pc k n : Nat} {lv lv' : ev_L} {st st' : List Value} {w : ev_W} (E : ev_E p s m args meth c D tc b nL own cc H0) (hi : (i = .lload j ∧ len = 2) ∨ (∃ q : Fin 4, i = .lload_n q ∧ (q : Nat) = j ∧ len = 1)) (hd : decode cc pc = .ok (i, len)) (h : ev_ldl j lv st = some (lv', st')) (kk : ev_G p l e R s m args below meth c D tc b nL H0 Q (pc + len) lv' st' w k n) : ev_G p l e R s m args below meth c D tc b nL H0 Q pc lv st w k n := by
  obtain ⟨hx, hb, -⟩ := E
  unfold ev_ldl at h
  split at h
  · next x hv =>
    cases h
    intro H locs ls hz hP hS hl
    have h1 := ev_at hl hv (by intro q; cases q)
    rcases hi with ⟨rfl, rfl⟩ | ⟨q, rfl, rfl, rfl⟩
    · exact lv_lload hx hb hd h1 (kk H locs ls hz hP hS hl)
    · exact lv_lload_n hx hb hd rfl h1 (kk H locs ls hz hP hS hl)
  · cases h
theorem ev_s_lda {i : Instr} {len j pc k n : Nat} {lv lv' : ev_L} {st st' : List Value} {w : ev_W} (E : ev_E p s m args meth c D tc b nL own cc H0) (hi : (i = .aload j ∧ len = 2) ∨ (∃ q : Fin 4, i = .aload_n q ∧ (q : Nat) = j ∧ len = 1)) (hd : decode cc pc = .ok (i, len)) (h : ev_lda j lv st = some (lv', st')) (kk : ev_G p l e R s m args below meth c D tc b nL H0 Q (pc + len) lv' st' w k n) : ev_G p l e R s m args below meth c D tc b nL H0 Q pc lv st w k n := by
  obtain ⟨hx, hb, -⟩ := E
  unfold ev_lda at h
  split at h
  · next x hv =>
    cases h
    intro H locs ls hz hP hS hl
    have h1 := ev_at hl hv (by intro q; cases q)
    rcases hi with ⟨rfl, rfl⟩ | ⟨q, rfl, rfl, rfl⟩
    · exact lv_aload hx hb hd h1 (kk H locs ls hz hP hS hl)
    · exact lv_aload_n hx hb hd rfl h1 (kk H locs ls hz hP hS hl)
  · cases h
theorem ev_s_sti {i : Instr} {len j pc k n : Nat} {lv lv' : ev_L} {st st' : List Value} {w : ev_W} (E : ev_E p s m args meth c D tc b nL own cc H0) (hi : (i = .istore j ∧ len = 2) ∨ (∃ q : Fin 4, i = .istore_n q ∧ (q : Nat) = j ∧ len = 1)) (hd : decode cc pc = .ok (i, len)) (h : ev_sti nL j lv st = some (lv', st')) (kk : ev_G p l e R s m args below meth c D tc b nL H0 Q (pc + len) lv' st' w k n) : ev_G p l e R s m args below meth c D tc b nL H0 Q pc lv st w k n := by
  obtain ⟨hx, hb, -⟩ := E
  unfold ev_sti at h
  split at h
  · next x st2 =>
    split at h
    · next hj =>
      cases h
      intro H locs ls hz hP hS hl
      rcases hi with ⟨rfl, rfl⟩ | ⟨q, rfl, rfl, rfl⟩
      · exact lv_istore hx hb hd hl hj rfl (fun ls' hl' => kk H locs ls' hz hP hS (ev_has_sub hl' (ev_put1_sub (v := .int x))))
      · exact lv_istore_n hx hb hd rfl hl hj rfl (fun ls' hl' => kk H locs ls' hz hP hS (ev_has_sub hl' (ev_put1_sub (v := .int x))))
    · cases h
  · cases h
theorem ev_s_stl {i : Instr} {len j pc k n : Nat} {lv lv' : ev_L} {st st' : List Value} {w : ev_W} (E : ev_E p s m args meth c D tc b nL own cc H0) (hi : (i = .lstore j ∧ len = 2) ∨ (∃ q : Fin 4, i = .lstore_n q ∧ (q : Nat) = j ∧ len = 1)) (hd : decode cc pc = .ok (i, len)) (h : ev_stl nL j lv st = some (lv', st')) (kk : ev_G p l e R s m args below meth c D tc b nL H0 Q (pc + len) lv' st' w k n) : ev_G p l e R s m args below meth c D tc b nL H0 Q pc lv st w k n := by
  obtain ⟨hx, hb, -⟩ := E
  unfold ev_stl at h
  split at h
  · next x st2 =>
    split at h
    · next hj =>
      cases h
      intro H locs ls hz hP hS hl
      rcases hi with ⟨rfl, rfl⟩ | ⟨q, rfl, rfl, rfl⟩
      · exact lv_lstore hx hb hd hl hj rfl (fun ls' hl' => kk H locs ls' hz hP hS (ev_has_sub hl' (ev_put2_sub (v := .long x))))
      · exact lv_lstore_n hx hb hd rfl hl hj rfl (fun ls' hl' => kk H locs ls' hz hP hS (ev_has_sub hl' (ev_put2_sub (v := .long x))))
    · cases h
  · cases h
theorem ev_s_sta {i : Instr} {len j pc k n : Nat} {lv lv' : ev_L} {st st' : List Value} {w : ev_W} (E : ev_E p s m args meth c D tc b nL own cc H0) (hi : (i = .astore j ∧ len = 2) ∨ (∃ q : Fin 4, i = .astore_n q ∧ (q : Nat) = j ∧ len = 1)) (hd : decode cc pc = .ok (i, len)) (h : ev_sta nL j lv st = some (lv', st')) (kk : ev_G p l e R s m args below meth c D tc b nL H0 Q (pc + len) lv' st' w k n) : ev_G p l e R s m args below meth c D tc b nL H0 Q pc lv st w k n := by
  obtain ⟨hx, hb, -⟩ := E
  unfold ev_sta at h
  split at h
  · next x st2 =>
    split at h
    · next hj =>
      cases h
      intro H locs ls hz hP hS hl
      rcases hi with ⟨rfl, rfl⟩ | ⟨q, rfl, rfl, rfl⟩
      · exact lv_astore hx hb hd hl hj rfl (fun ls' hl' => kk H locs ls' hz hP hS (ev_has_sub hl' (ev_put1_sub (v := .ref x))))
      · exact lv_astore_n hx hb hd rfl hl hj rfl (fun ls' hl' => kk H locs ls' hz hP hS (ev_has_sub hl' (ev_put1_sub (v := .ref x))))
    · cases h
  · cases h
theorem ev_s_inc {z : Int} {j pc k n : Nat} {lv lv' : ev_L} {st st' : List Value} {w : ev_W} (E : ev_E p s m args meth c D tc b nL own cc H0) (hd : decode cc pc = .ok (.iinc j z, 3)) (h : ev_inc nL j z lv st = some (lv', st')) (kk : ev_G p l e R s m args below meth c D tc b nL H0 Q (pc + 3) lv' st' w k n) : ev_G p l e R s m args below meth c D tc b nL H0 Q pc lv st w k n := by
  obtain ⟨hx, hb, -⟩ := E
  unfold ev_inc at h
  split at h
  · next x hv =>
    split at h
    · next hj =>
      cases h
      intro H locs ls hz hP hS hl
      have hm : (j, Value.int x) ∈ ev_ll b lv := ev_ll_mem.mpr ⟨_, hv, (by intro q; cases q), rfl⟩
      obtain ⟨q, hq⟩ := List.getElem?_of_mem hm
      exact lv_iinc hx hb hd hl hq rfl hj rfl (fun ls' hl' => kk H locs ls' hz hP hS (ev_has_sub hl' (ev_put1_sub (v := .int (x + Int32.ofInt z)))))
    · cases h
  · cases h
theorem ev_s_bin {i : Instr} {pc k n : Nat} {lv lv' : ev_L} {st st' : List Value} {w : ev_W} (E : ev_E p s m args meth c D tc b nL own cc H0) (hd : decode cc pc = .ok (i, 1)) (h : ev_bin i lv st = some (lv', st')) (kk : ev_G p l e R s m args below meth c D tc b nL H0 Q (pc + 1) lv' st' w k n) : ev_G p l e R s m args below meth c D tc b nL H0 Q pc lv st w k n := by
  obtain ⟨hx, hb, -⟩ := E
  unfold ev_bin at h
  split at h
  · next y x st2 =>
    unfold ev_ibin at h
    split at h
    all_goals first
      | (cases h; done)
      | (cases h; intro H locs ls hz hP hS hl; exact lv_iadd hx hb hd (kk H locs ls hz hP hS hl))
      | (cases h; intro H locs ls hz hP hS hl; exact lv_isub hx hb hd (kk H locs ls hz hP hS hl))
      | (cases h; intro H locs ls hz hP hS hl; exact lv_imul hx hb hd (kk H locs ls hz hP hS hl))
      | (cases h; intro H locs ls hz hP hS hl; exact lv_iand hx hb hd (kk H locs ls hz hP hS hl))
      | (cases h; intro H locs ls hz hP hS hl; exact lv_ior hx hb hd (kk H locs ls hz hP hS hl))
      | (cases h; intro H locs ls hz hP hS hl; exact lv_ixor hx hb hd (kk H locs ls hz hP hS hl))
      | (cases h; intro H locs ls hz hP hS hl; exact lv_ishl hx hb hd (kk H locs ls hz hP hS hl))
      | (cases h; intro H locs ls hz hP hS hl; exact lv_iushr hx hb hd rfl (kk H locs ls hz hP hS hl))
      | (split at h
         · cases h
         · next h0 => cases h; intro H locs ls hz hP hS hl; exact lv_idiv hx hb hd h0 (kk H locs ls hz hP hS hl))
      | (split at h
         · cases h
         · next h0 => cases h; intro H locs ls hz hP hS hl; exact lv_irem hx hb hd h0 (kk H locs ls hz hP hS hl))
  · next y x st2 =>
    unfold ev_lbin at h
    split at h
    all_goals first
      | (cases h; done)
      | (cases h; intro H locs ls hz hP hS hl; exact lv_ladd hx hb hd (kk H locs ls hz hP hS hl))
      | (cases h; intro H locs ls hz hP hS hl; exact lv_lsub hx hb hd (kk H locs ls hz hP hS hl))
      | (cases h; intro H locs ls hz hP hS hl; exact lv_lmul hx hb hd (kk H locs ls hz hP hS hl))
      | (cases h; intro H locs ls hz hP hS hl; exact lv_land hx hb hd (kk H locs ls hz hP hS hl))
      | (cases h; intro H locs ls hz hP hS hl; exact lv_lor hx hb hd (kk H locs ls hz hP hS hl))
      | (cases h; intro H locs ls hz hP hS hl; exact lv_lxor hx hb hd (kk H locs ls hz hP hS hl))
      | (split at h
         · cases h
         · next h0 => cases h; intro H locs ls hz hP hS hl; exact lv_ldiv hx hb hd h0 (kk H locs ls hz hP hS hl))
  · next y x st2 =>
    unfold ev_lsh at h
    split at h
    all_goals first
      | (cases h; done)
      | (cases h; intro H locs ls hz hP hS hl; exact lv_lshl hx hb hd rfl (kk H locs ls hz hP hS hl))
      | (cases h; intro H locs ls hz hP hS hl; exact lv_lshr hx hb hd rfl (kk H locs ls hz hP hS hl))
      | (cases h; intro H locs ls hz hP hS hl; exact lv_lushr hx hb hd rfl (kk H locs ls hz hP hS hl))
  · cases h
end EVS
