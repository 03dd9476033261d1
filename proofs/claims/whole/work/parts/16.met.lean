/-! The evaluator's answers are contracts -/
theorem ev_h_len {K : ev_K} (hK : ev_KL K) {own : Nat} {ini : Bool} {i : Instr} {len dk dn : Nat} {st st' : List Value} {w w' : ev_W} (h : ev_h K own ini i len st w = some (st', w', dk, dn)) : w'.length = w.length + dk := by
  unfold ev_h at h
  split at h
  · split at h
    · split at h
      · obtain ⟨v, hv, hq⟩ := ev_opt h; cases hq; rfl
      · cases h
    · cases h
  · split at h
    · split at h
      · obtain ⟨v, hv, hq⟩ := ev_opt h; cases hq; exact ev_set_len hv
      · cases h
    · cases h
  · split at h
    · obtain ⟨v, hv, hq⟩ := ev_opt h; cases hq; rfl
    · cases h
  · split at h
    · obtain ⟨v, hv, hq⟩ := ev_opt h; cases hq; rfl
    · cases h
  · split at h
    · obtain ⟨v, hv, hq⟩ := ev_opt h; cases hq; rfl
    · cases h
  · split at h
    · obtain ⟨v, hv, hq⟩ := ev_opt h; cases hq; rfl
    · cases h
  · split at h
    · obtain ⟨v, hv, hq⟩ := ev_opt h; cases hq; exact ev_si_len hv
    · cases h
  · split at h
    · obtain ⟨v, hv, hq⟩ := ev_opt h; cases hq; exact ev_si_len hv
    · cases h
  · split at h
    · obtain ⟨v, hv, hq⟩ := ev_opt h; cases hq; exact ev_sl_len hv
    · cases h
  · split at h
    · obtain ⟨v, hv, hq⟩ := ev_opt h; cases hq; exact ev_sa_len hv
    · cases h
  · split at h
    · obtain ⟨v, hv, hq⟩ := ev_opt h; cases hq; rfl
    · cases h
  · split at h
    · split at h
      · exact ev_newa_len h
      · cases h
    · cases h
  · split at h
    · split at h
      · exact ev_newa_len h
      · cases h
    · cases h
  · split at h
    · exact ev_new_len h
    · cases h
  · split at h
    · unfold ev_stat at h
      split at h
      · split at h
        · obtain ⟨v, hv, hq⟩ := ev_opt h; cases hq; exact ev_cpy_len hv
        · split at h
          · obtain ⟨v, hv, hq⟩ := ev_opt h; cases hq; rfl
          · split at h
            · split at h
              · split at h
                · exact ev_back_len hK h
                · cases h
              · cases h
            · cases h
      · cases h
    · cases h
  · split at h
    · unfold ev_virt at h
      split at h
      · split at h
        · split at h
          · split at h
            · split at h
              · exact ev_back_len hK h
              · cases h
            · cases h
          · cases h
        · cases h
      · cases h
    · cases h
  · split at h
    · unfold ev_spec at h
      split at h
      · split at h
        · split at h
          · split at h
            · cases h; rfl
            · cases h
          · cases h
        · split at h
          · split at h
            · split at h
              · exact ev_back_len hK h
              · cases h
            · cases h
          · cases h
      · cases h
    · cases h
  · cases h
/-- a step: its kinds -/
theorem ev_step_inv {K : ev_K} {own nL : Nat} {ini : Bool} {ret : Option FieldType} {i : Instr} {len pc k n : Nat} {lv : ev_L} {st : List Value} {w : ev_W} {o : ev_F ⊕ ev_R} (h : ev_step K own nL ini ret i len (pc, lv, st, w, k, n) = some o) :
    (∃ q, ev_p own nL i len lv st = some q ∧ o = .inl (pc + len, q.1, q.2, w, k, n)) ∨ (∃ q, ev_b i len pc st = some q ∧ o = .inl (q.1, lv, q.2, w, k, n)) ∨ (∃ q, ev_h K own ini i len st w = some q ∧ o = .inl (pc + len, lv, q.1, q.2.1, k + q.2.2.1, n + q.2.2.2)) ∨ (∃ v, ev_ret ret i len st = some v ∧ o = .inr (v, w, k, n)) := by
  unfold ev_step at h
  split at h
  · next q hq => cases h; exact Or.inl ⟨q, hq, rfl⟩
  · split at h
    · next q hq => cases h; exact Or.inr (Or.inl ⟨q, hq, rfl⟩)
    · split at h
      · next q hq => cases h; exact Or.inr (Or.inr (Or.inl ⟨q, hq, rfl⟩))
      · split at h
        · next v hv => cases h; exact Or.inr (Or.inr (Or.inr ⟨v, hv, rfl⟩))
        · cases h
theorem ev_go_inv {K : ev_K} {own nL : Nat} {ini : Bool} {ret : Option FieldType} {cc : ByteArray} {f : Nat} {g : ev_F} {r : ev_R} (h : ev_go K own nL ini ret cc (f + 1) g = some r) : ∃ i len, decode cc g.1 = .ok (i, len) ∧ ((∃ g', ev_step K own nL ini ret i len g = some (.inl g') ∧ ev_go K own nL ini ret cc f g' = some r) ∨ ev_step K own nL ini ret i len g = some (.inr r)) := by
  unfold ev_go at h
  split at h
  · next i len hd =>
    refine ⟨i, len, hd, ?_⟩
    split at h
    · next g' hg => exact Or.inl ⟨g', hg, h⟩
    · next r' hr => cases h; exact Or.inr hr
    · cases h
  · cases h
theorem ev_go_cnt {K : ev_K} (hK : ev_KL K) {own nL : Nat} {ini : Bool} {ret : Option FieldType} {cc : ByteArray} : ∀ (f pc : Nat) (lv : ev_L) (st : List Value) (w : ev_W) (k n : Nat) (r : ev_R), ev_go K own nL ini ret cc f (pc, lv, st, w, k, n) = some r → k ≤ r.2.2.1 ∧ n ≤ r.2.2.2 ∧ r.2.1.length + k = w.length + r.2.2.1 := by
  intro f
  induction f with
  | zero => intro pc lv st w k n r h; cases h
  | succ f ih =>
    intro pc lv st w k n r h
    obtain ⟨i, len, hd, h | h⟩ := ev_go_inv h
    · obtain ⟨g', hg, h⟩ := h
      rcases ev_step_inv hg with ⟨q, hq, e⟩ | ⟨q, hq, e⟩ | ⟨q, hq, e⟩ | ⟨v, hv, e⟩
      · cases e; exact ih _ _ _ _ _ _ _ h
      · cases e; exact ih _ _ _ _ _ _ _ h
      · obtain ⟨x1, x2, x3, x4⟩ := q
        cases e
        obtain ⟨a1, a2, a3⟩ := ih _ _ _ _ _ _ _ h
        have a4 := ev_h_len hK hq
        dsimp only at a1 a2 a3 a4
        refine ⟨by omega, by omega, by omega⟩
      · cases e
    · rcases ev_step_inv h with ⟨q, hq, e⟩ | ⟨q, hq, e⟩ | ⟨q, hq, e⟩ | ⟨v, hv, e⟩
      · cases e
      · cases e
      · cases e
      · cases e
        exact ⟨Nat.le_refl _, Nat.le_refl _, rfl⟩
theorem ev_m_len : ∀ d f, ev_KL (ev_m d f) := by
  intro d
  induction d with
  | zero => intro f j As w r h; cases h
  | succ d ih =>
    intro f j As w r h
    unfold ev_m at h
    split at h
    · next own nm ds cc nL ret ini q0 hq =>
      split at h
      · obtain ⟨-, -, a3⟩ := ev_go_cnt (ih f) f _ _ _ _ _ _ _ h
        omega
      · cases h
    · cases h
section EVS10
variable {p : Program} {l : Launch} {e : Env} {R : Room} {s : State} {m : MethodId} {args : Array Value} {below : List Frame} {meth : Method} {c : Code} {D : va_G} {tc : Nat → ClassId} {b nL own : Nat} {cc : ByteArray}
theorem ev_sound_go {d : Nat} {K : ev_K} {ini : Bool} {ret : Option FieldType} {r : ev_R} (E : ev_E p s m args meth c D tc b nL own cc s.heap) (hK : ev_KS l D tc b d K) (hKl : ev_KL K) (hRf : d + 1 ≤ R.frames) (hRl : 200 * d + 200 ≤ R.locals) (hI : ini = true → meth.name = "<init>") (hret : meth.sig.returnType = ret) (hRc : r.2.2.1 ≤ R.cells) (hRs : r.2.2.2 ≤ R.slots) : ∀ (f pc : Nat) (lv : ev_L) (st : List Value) (w : ev_W) (k n : Nat), ev_go K own nL ini ret cc f (pc, lv, st, w, k, n) = some r → ev_G p l e R s m args below meth c D tc b nL s.heap (MQ below (ev_Qc D tc b r) args s r.2.2.1 r.2.2.2 (fun z => b ≤ z)) pc lv st w k n := by
  intro f
  induction f with
  | zero => intro pc lv st w k n h; cases h
  | succ f ih =>
    intro pc lv st w k n h
    obtain ⟨i, len, hd, h | h⟩ := ev_go_inv h
    · obtain ⟨g', hg, h⟩ := h
      rcases ev_step_inv hg with ⟨q, hq, e⟩ | ⟨q, hq, e⟩ | ⟨q, hq, e⟩ | ⟨v, hv, e⟩
      · cases e; exact ev_sp E hd hq (ih _ _ _ _ _ _ h)
      · cases e; exact ev_sb E hd hq (ih _ _ _ _ _ _ h)
      · cases e
        obtain ⟨a1, a2, -⟩ := ev_go_cnt hKl f _ _ _ _ _ _ _ h
        exact ev_sh E hK hRf hRl hI hd hq (Nat.le_trans a1 hRc) (Nat.le_trans a2 hRs) (ih _ _ _ _ _ _ h)
      · cases e
    · rcases ev_step_inv h with ⟨q, hq, e⟩ | ⟨q, hq, e⟩ | ⟨q, hq, e⟩ | ⟨v, hv, e⟩
      · cases e
      · cases e
      · cases e
      · cases e
        exact ev_sr E hret hd hv
end EVS10
theorem ev_ent_mem {b : Nat} : ∀ (As : List Value) (o i : Nat) (v : Value), (ev_ent As)[i]? = some v → v ≠ .retAddr 0 → (o + i, ev_cv b v) ∈ lv_args o (As.map (ev_cv b))
  | [], o, i, v, h, _ => by simp [ev_ent] at h
  | a :: As, o, i, v, h, hv => by
    unfold ev_ent at h
    simp only [List.map_cons, lv_args, ev_cv_cat]
    split at h
    · next hc =>
      simp only [hc, if_true]
      match i, h with
      | 0, h => simp at h; subst h; exact List.mem_cons_self
      | 1, h => simp at h; exact absurd h.symm hv
      | i + 2, h =>
        simp at h
        have := ev_ent_mem (b := b) As (o + 2) i v h hv
        rw [show o + 2 + i = o + (i + 2) by omega] at this
        exact List.mem_cons_of_mem _ this
    · next hc =>
      simp only [hc, if_false]
      match i, h with
      | 0, h => simp at h; subst h; exact List.mem_cons_self
      | i + 1, h =>
        simp at h
        have := ev_ent_mem (b := b) As (o + 1) i v h hv
        rw [show o + 1 + i = o + (i + 1) by omega] at this
        exact List.mem_cons_of_mem _ this
theorem ev_ent_len (b : Nat) : ∀ As : List Value, (lg_sl (As.map (ev_cv b))).length = (ev_ent As).length
  | [] => rfl
  | a :: As => by
    have ih := ev_ent_len b As
    unfold lg_sl at ih ⊢
    simp only [List.map_cons, List.flatMap_cons, List.length_append, ih, ev_cv_cat, ev_ent]
    split
    · simp; omega
    · simp; omega
theorem ev_entry {b nL : Nat} {As : List Value} {ls : Array Slot} (h : lv_has ls nL (lv_args 0 (As.map (ev_cv b)))) : lv_has ls nL (ev_ll b (ev_pad nL (ev_ent As))) := by
  refine ev_has_sub h ?_
  rintro ⟨i, u⟩ hq
  obtain ⟨v, h1, h2, rfl⟩ := ev_ll_mem.mp hq
  unfold ev_pad at h1
  rcases Nat.lt_or_ge i (ev_ent As).length with hi | hi
  · rw [List.getElem?_append_left hi] at h1
    have := ev_ent_mem (b := b) As 0 i v h1 h2
    rw [Nat.zero_add] at this
    exact this
  · rw [List.getElem?_append_right hi] at h1
    have h3 := List.mem_of_getElem? h1
    exact absurd (List.mem_replicate.mp h3).2 h2
/-- THE EVALUATOR IS SOUND: what it answers is a contract of the machine -/
theorem ev_sound (l : Launch) (D : va_G) (tc : Nat → ClassId) (b : Nat) : ∀ d f, ev_KS l D tc b d (ev_m d f) := by
  intro d
  induction d with
  | zero => intro f j As w r q _ _ h; cases h
  | succ d ih =>
    intro f j As w r q hq h16 h
    refine ⟨ev_m_len (d + 1) f j As w r h, ?_⟩
    unfold ev_m at h
    rw [hq] at h
    obtain ⟨own, nm, ds, cc, nL, ret, ini, q0⟩ := q
    simp only at h
    split at h
    · next hlen =>
      obtain ⟨hcw, hlt, hini⟩ := ev_mq hq
      have hy := ev_yN_eq hq
      have hpl := List.all_eq_true.mp ev_pl_all own (List.mem_range.mpr hlt)
      simp only [Bool.and_eq_true, Bool.or_eq_true, decide_eq_true_eq] at hpl
      have hplain : plainName (ev_yN j).cls = true := by
        rw [hy]
        rcases hpl.1 with h1 | h1
        · exact h1
        · exact absurd h1 h16
      refine Met.ofW (cc := cc) (maxL := nL) (ret := ret) hplain rfl ?_
      intro p e s m args below meth c s₁ B hml hv
      obtain ⟨rfl, hsz, hP, hU⟩ := hv
      have hts : ∀ w ∈ ev_ws, w.before _ s = true := fun w hw => atoms_spec (ws := Cond.code (ev_yN j) cc nL ret :: ev_ws) B.pre w (List.mem_cons_of_mem _ hw)
      have hown : s.vm.findClass (ev_nm own) = some m.cls := by
        have h1 := findClass_of_methodNamed B.named
        rw [hy] at h1
        exact h1
      have hnm : ini = true → meth.name = "<init>" := fun hi => by
        have h1 := (name_of_methodNamed B.named B.method).1
        rw [hy] at h1
        exact h1.trans (hini hi)
      have E : ev_E p s m ((As.map (ev_cv b)).toArray) meth c D tc b nL own cc s.heap := ⟨B.exec, B.bytes, hml, hown, hts, hU, by rw [hsz]; exact Nat.le_add_right _ _, B.notSynchronized⟩
      rw [lg_entry_eq]
      have hl := ev_entry (lv_entry (As.map (ev_cv b)) (n := nL) (by rw [ev_ent_len]; exact hlen))
      exact ev_sound_go (R := ev_rm (d + 1) r.2.2.1 r.2.2.2) E (ih f) (ev_m_len d f) (Nat.le_refl _) (by show 200 * d + 200 ≤ 200 * (d + 1); omega) hnm B.returns (Nat.le_refl _) (Nat.le_refl _) f 0 _ [] w 0 0 h s.heap [] _ hsz hP va_S.rf hl
    · cases h
