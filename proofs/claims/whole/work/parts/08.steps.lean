/-! Steps of the evaluator are steps of the machine -/
section EVS2
variable {p : Program} {l : Launch} {e : Env} {R : Room} {s : State} {m : MethodId} {args : Array Value} {below : List Frame} {meth : Method} {c : Code} {Q : State → Prop} {D : va_G} {tc : Nat → ClassId} {b nL own : Nat} {cc : ByteArray} {H0 : Heap}
theorem ev_pt_mem {q : Nat} {w : Jvm.Cond} (h : ev_pt q = some w) : w ∈ lw_tbl := by
  unfold ev_pt at h
  have h1 := List.mem_of_getElem? h
  show w ∈ k2_sels lw_privs ++ (tables_1_1 ++ (tables_1_2 ++ (tables_1_3 ++ (tables_1_4 ++ (tables_1_5 ++ (tables_1_6 ++ (tables_1_7 ++ (tables_1_8 ++ tables_1_9))))))))
  simp only [List.mem_append]
  generalize q / 1000 = i at h1
  unfold ev_tb at h1
  split at h1
  · exact Or.inl h1
  · exact Or.inr (Or.inl h1)
  · exact Or.inr (Or.inr (Or.inl h1))
  · exact Or.inr (Or.inr (Or.inr (Or.inl h1)))
  · exact Or.inr (Or.inr (Or.inr (Or.inr (Or.inl h1))))
  · exact Or.inr (Or.inr (Or.inr (Or.inr (Or.inr (Or.inl h1)))))
  · exact Or.inr (Or.inr (Or.inr (Or.inr (Or.inr (Or.inr (Or.inl h1))))))
  · exact Or.inr (Or.inr (Or.inr (Or.inr (Or.inr (Or.inr (Or.inr (Or.inl h1)))))))
  · exact Or.inr (Or.inr (Or.inr (Or.inr (Or.inr (Or.inr (Or.inr (Or.inr (Or.inl h1))))))))
  · exact Or.inr (Or.inr (Or.inr (Or.inr (Or.inr (Or.inr (Or.inr (Or.inr (Or.inr h1))))))))
  · cases h1
theorem ev_word (E : ev_E p s m args meth c D tc b nL own cc H0) {q : Nat} {w : Jvm.Cond} (h : ev_pt q = some w) (hg : goodWord w = true) : w.before args s = true := E.2.2.2.2.1 w (List.mem_filter.mpr ⟨ev_pt_mem h, hg⟩)
theorem ev_look_key {α : Type} {own x : Nat} {l : List (Nat × α)} {a : α} (h : (if x < 1000 then ev_look (own * 1000 + x) l else none) = some a) : (own * 1000 + x, a) ∈ l ∧ (own * 1000 + x) / 1000 = own ∧ (own * 1000 + x) % 1000 = x := by
  split at h
  · exact ⟨ev_look_mem h, by omega, by omega⟩
  · cases h
theorem ev_con_word (E : ev_E p s m args meth c D tc b nL own cc H0) {x q : Nat} {v : Value} (h : ev_con own x = some (v, q)) : (∀ z, v = .int z → (Jvm.Cond.constant (ev_nm own) x z).before args s = true) ∧ (∀ z, v = .long z → (Jvm.Cond.constantLong (ev_nm own) x z).before args s = true) := by
  obtain ⟨h0, e1, e2⟩ := ev_look_key h
  have h1 := List.all_eq_true.mp ev_con_all _ h0
  constructor
  · intro z hz
    subst hz
    simp only [ev_conC, e1, e2, decide_eq_true_eq] at h1
    exact ev_word E h1 rfl
  · intro z hz
    subst hz
    simp only [ev_conC, e1, e2, decide_eq_true_eq] at h1
    exact ev_word E h1 rfl
/-- steps on locals and stack -/
theorem ev_sp {i : Instr} {len pc k n : Nat} {lv lv' : ev_L} {st st' : List Value} {w : ev_W} (E : ev_E p s m args meth c D tc b nL own cc H0) (hd : decode cc pc = .ok (i, len)) (h : ev_p own nL i len lv st = some (lv', st')) (kk : ev_G p l e R s m args below meth c D tc b nL H0 Q (pc + len) lv' st' w k n) : ev_G p l e R s m args below meth c D tc b nL H0 Q pc lv st w k n := by
  have hx := E.1
  have hb := E.2.1
  unfold ev_p at h
  split at h
  · split at h
    · next hl => subst hl; cases h; intro H locs ls hz hP hS hl; exact lv_iconst hx hb hd rfl (kk H locs ls hz hP hS hl)
    · cases h
  · split at h
    · next hl => subst hl; cases h; intro H locs ls hz hP hS hl; exact lv_bipush hx hb hd rfl (kk H locs ls hz hP hS hl)
    · cases h
  · split at h
    · next hl => subst hl; cases h; intro H locs ls hz hP hS hl; exact lv_sipush hx hb hd rfl (kk H locs ls hz hP hS hl)
    · cases h
  · split at h
    · next hl => subst hl; cases h; intro H locs ls hz hP hS hl; exact lv_lconst hx hb hd rfl (kk H locs ls hz hP hS hl)
    · cases h
  · split at h
    · next hl =>
      subst hl
      split at h
      · next v q hc => cases h; intro H locs ls hz hP hS hl; exact lv_ldc hx hb E.2.2.2.1 ((ev_con_word E hc).1 v rfl) hd (kk H locs ls hz hP hS hl)
      · cases h
    · cases h
  · split at h
    · next hl =>
      subst hl
      split at h
      · next v q hc => cases h; intro H locs ls hz hP hS hl; exact lv_ldcw hx hb E.2.2.2.1 ((ev_con_word E hc).1 v rfl) hd (kk H locs ls hz hP hS hl)
      · cases h
    · cases h
  · split at h
    · next hl =>
      subst hl
      split at h
      · next v q hc => cases h; intro H locs ls hz hP hS hl; exact lv_ldc2 hx hb E.2.2.2.1 ((ev_con_word E hc).2 v rfl) hd (kk H locs ls hz hP hS hl)
      · cases h
    · cases h
  · split at h
    · next hl => subst hl; exact ev_s_ldi E (Or.inl ⟨rfl, rfl⟩) hd h kk
    · cases h
  · split at h
    · next hl => subst hl; exact ev_s_ldi E (Or.inr ⟨_, rfl, rfl, rfl⟩) hd h kk
    · cases h
  · split at h
    · next hl => subst hl; exact ev_s_ldl E (Or.inl ⟨rfl, rfl⟩) hd h kk
    · cases h
  · split at h
    · next hl => subst hl; exact ev_s_ldl E (Or.inr ⟨_, rfl, rfl, rfl⟩) hd h kk
    · cases h
  · split at h
    · next hl => subst hl; exact ev_s_lda E (Or.inl ⟨rfl, rfl⟩) hd h kk
    · cases h
  · split at h
    · next hl => subst hl; exact ev_s_lda E (Or.inr ⟨_, rfl, rfl, rfl⟩) hd h kk
    · cases h
  · split at h
    · next hl => subst hl; exact ev_s_sti E (Or.inl ⟨rfl, rfl⟩) hd h kk
    · cases h
  · split at h
    · next hl => subst hl; exact ev_s_sti E (Or.inr ⟨_, rfl, rfl, rfl⟩) hd h kk
    · cases h
  · split at h
    · next hl => subst hl; exact ev_s_stl E (Or.inl ⟨rfl, rfl⟩) hd h kk
    · cases h
  · split at h
    · next hl => subst hl; exact ev_s_stl E (Or.inr ⟨_, rfl, rfl, rfl⟩) hd h kk
    · cases h
  · split at h
    · next hl => subst hl; exact ev_s_sta E (Or.inl ⟨rfl, rfl⟩) hd h kk
    · cases h
  · split at h
    · next hl => subst hl; exact ev_s_sta E (Or.inr ⟨_, rfl, rfl, rfl⟩) hd h kk
    · cases h
  · split at h
    · next hl => subst hl; exact ev_s_inc E hd h kk
    · cases h
  · split at h
    · next hl =>
      subst hl
      split at h
      · cases h; intro H locs ls hz hP hS hl; exact W.lcmp hx hb hd (kk H locs ls hz hP hS hl)
      · cases h
    · cases h
  · split at h
    · next hl =>
      subst hl
      split at h
      · cases h; intro H locs ls hz hP hS hl; exact lv_i2l hx hb hd rfl (kk H locs ls hz hP hS hl)
      · cases h
    · cases h
  · split at h
    · next hl =>
      subst hl
      split at h
      · cases h; intro H locs ls hz hP hS hl; exact lv_l2i hx hb hd rfl (kk H locs ls hz hP hS hl)
      · cases h
    · cases h
  · split at h
    · next hl =>
      subst hl
      split at h
      · split at h
        · next hc => cases h; intro H locs ls hz hP hS hl; exact lv_dup hx hb hd (by rw [ev_cv_cat]; exact hc) (kk H locs ls hz hP hS hl)
        · cases h
      · cases h
    · cases h
  · split at h
    · next hl =>
      subst hl
      split at h
      · split at h
        · next hc => cases h; intro H locs ls hz hP hS hl; exact lv_dup2_11 hx hb hd (by rw [ev_cv_cat]; exact hc.1) (by rw [ev_cv_cat]; exact hc.2) (kk H locs ls hz hP hS hl)
        · cases h
      · cases h
    · cases h
  · split at h
    · next hl =>
      subst hl
      split at h
      · split at h
        · next hc => cases h; intro H locs ls hz hP hS hl; exact lv_pop hx hb hd (by rw [ev_cv_cat]; exact hc) (kk H locs ls hz hP hS hl)
        · cases h
      · cases h
    · cases h
  · split at h
    · next hl => subst hl; exact ev_s_bin E hd h kk
    · cases h
theorem ev_toNat {pc : Nat} {o : Int} (h : 0 ≤ (pc : Int) + o) : (pc : Int) + o = ((((pc : Int) + o).toNat : Nat) : Int) := by omega
/-- branches -/
theorem ev_sb {i : Instr} {len pc pc' k n : Nat} {lv : ev_L} {st st' : List Value} {w : ev_W} (E : ev_E p s m args meth c D tc b nL own cc H0) (hd : decode cc pc = .ok (i, len)) (h : ev_b i len pc st = some (pc', st')) (kk : ev_G p l e R s m args below meth c D tc b nL H0 Q pc' lv st' w k n) : ev_G p l e R s m args below meth c D tc b nL H0 Q pc lv st w k n := by
  have hx := E.1
  have hb := E.2.1
  unfold ev_b at h
  split at h
  · split at h
    · next hl => obtain ⟨rfl, hl⟩ := hl; cases h; intro H locs ls hz hP hS hl'; exact lv_goto hx hb hd (ev_toNat hl) (kk H locs ls hz hP hS hl')
    · cases h
  · next cd o =>
    split at h
    · next hl =>
      obtain ⟨rfl, hl⟩ := hl
      split at h
      · next x st2 =>
        intro H locs ls hz hP hS hl'
        cases cd
        · refine lv_if_eq hx hb hd (ev_toNat hl) (fun hc => ?_) (fun hc => ?_) <;> (simp [ev_cond, hc] at h; obtain ⟨rfl, rfl⟩ := h; exact kk H locs ls hz hP hS hl')
        · refine lv_if_ne hx hb hd (ev_toNat hl) (fun hc => ?_) (fun hc => ?_) <;> (simp [ev_cond, hc] at h; obtain ⟨rfl, rfl⟩ := h; exact kk H locs ls hz hP hS hl')
        · refine lv_if_lt hx hb hd (ev_toNat hl) (fun hc => ?_) (fun hc => ?_) <;> (simp only [ev_cond, hc, decide_true, decide_false, if_true, Bool.false_eq_true, if_false] at h; cases h; exact kk H locs ls hz hP hS hl')
        · refine lv_if_ge hx hb hd (ev_toNat hl) (fun hc => ?_) (fun hc => ?_) <;> (simp only [ev_cond, hc, decide_true, decide_false, if_true, Bool.false_eq_true, if_false] at h; cases h; exact kk H locs ls hz hP hS hl')
        · refine lv_if_gt hx hb hd (ev_toNat hl) (fun hc => ?_) (fun hc => ?_) <;> (simp only [ev_cond, hc, decide_true, decide_false, if_true, Bool.false_eq_true, if_false] at h; cases h; exact kk H locs ls hz hP hS hl')
        · refine lv_if_le hx hb hd (ev_toNat hl) (fun hc => ?_) (fun hc => ?_) <;> (simp only [ev_cond, hc, decide_true, decide_false, if_true, Bool.false_eq_true, if_false] at h; cases h; exact kk H locs ls hz hP hS hl')
      · cases h
    · cases h
  · next cd o =>
    split at h
    · next hl =>
      obtain ⟨rfl, hl⟩ := hl
      split at h
      · next x st2 =>
        intro H locs ls hz hP hS hl'
        cases cd
        · refine lv_icmp_eq hx hb hd (ev_toNat hl) (fun hc => ?_) (fun hc => ?_) <;> (simp only [ev_cond, hc, decide_true, decide_false, if_true, Bool.false_eq_true, if_false] at h; cases h; exact kk H locs ls hz hP hS hl')
        · refine lv_icmp_ne hx hb hd (ev_toNat hl) (fun hc => ?_) (fun hc => ?_) <;> (simp only [ev_cond, hc, not_true_eq_false, not_false_eq_true, decide_true, decide_false, if_true, Bool.false_eq_true, if_false] at h; cases h; exact kk H locs ls hz hP hS hl')
        · refine lv_icmp_lt hx hb hd (ev_toNat hl) (fun hc => ?_) (fun hc => ?_) <;> (simp only [ev_cond, hc, decide_true, decide_false, if_true, Bool.false_eq_true, if_false] at h; cases h; exact kk H locs ls hz hP hS hl')
        · refine lv_icmp_ge hx hb hd (ev_toNat hl) (fun hc => ?_) (fun hc => ?_) <;> (simp only [ev_cond, hc, decide_true, decide_false, if_true, Bool.false_eq_true, if_false] at h; cases h; exact kk H locs ls hz hP hS hl')
        · refine lv_icmp_gt hx hb hd (ev_toNat hl) (fun hc => ?_) (fun hc => ?_) <;> (simp only [ev_cond, hc, decide_true, decide_false, if_true, Bool.false_eq_true, if_false] at h; cases h; exact kk H locs ls hz hP hS hl')
        · refine lv_icmp_le hx hb hd (ev_toNat hl) (fun hc => ?_) (fun hc => ?_) <;> (simp only [ev_cond, hc, decide_true, decide_false, if_true, Bool.false_eq_true, if_false] at h; cases h; exact kk H locs ls hz hP hS hl')
      · cases h
    · cases h
  · split at h
    · next x st2 =>
      intro H locs ls hz hP hS hl'
      split at h
      · next hr =>
        split at h
        · next hl => cases h; exact lv_tableOut hx hb hd hr (ev_toNat hl) (kk H locs ls hz hP hS hl')
        · cases h
      · next hr =>
        split at h
        · next o ho =>
          split at h
          · next hl => cases h; exact lv_tableIn hx hb hd (fun q => hr (Or.inl q)) (fun q => hr (Or.inr q)) ho (ev_toNat hl) (kk H locs ls hz hP hS hl')
          · cases h
        · cases h
    · cases h
  · split at h
    · next x st2 =>
      intro H locs ls hz hP hS hl'
      split at h
      · next hr => cases h; exact lv_lookup hx hb hd hr.1 rfl (ev_toNat hr.2) (kk H locs ls hz hP hS hl')
      · cases h
    · cases h
  · cases h
end EVS2
