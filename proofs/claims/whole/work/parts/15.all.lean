/-! All steps together: the evaluator is sound -/
set_option maxRecDepth 100000 in
theorem ev_mts_all : ev_mthL.all (fun r => !(decide (r.2.1 = 4) || decide (r.2.1 = 7)) || (match ev_mL[r.2.2.1]? with
  | some q => decide (q.2.2.2.2.2.1 = none) && decide (q.2.1 = "<init>")
  | none => false)) = true := by decide +kernel
theorem ev_mts {own x kd j n q1 q2 q3 : Nat} (h : ev_mth own x = some (kd, j, n, q1, q2, q3)) (hk : kd = 4 ∨ kd = 7) : ∀ q, ev_mL[j]? = some q → q.2.2.2.2.2.1 = none ∧ q.2.1 = "<init>" := by
  intro q hq
  obtain ⟨h0, -, -⟩ := ev_look_key h
  have h1 := List.all_eq_true.mp ev_mts_all _ h0
  simp only [hq] at h1
  rcases hk with rfl | rfl <;> simpa using h1
/-- worlds grow by the cells that are made -/
def ev_KL (K : ev_K) : Prop := ∀ j As w r, K j As w = some r → r.2.1.length = w.length + r.2.2.1
theorem ev_back_len {K : ev_K} (hK : ev_KL K) {j : Nat} {As st st' : List Value} {w w' : ev_W} {dk dn : Nat} (h : ev_back st (K j As w) = some (st', w', dk, dn)) : w'.length = w.length + dk := by
  unfold ev_back at h
  cases hr : K j As w with
  | none => rw [hr] at h; cases h
  | some r =>
    rw [hr] at h
    cases h
    exact hK j As w r hr
theorem ev_set_len {own : Nat} {ini : Bool} {x a : Nat} {v : Value} {w w' : ev_W} (h : ev_set own ini x a v w = some w') : w'.length = w.length := by
  unfold ev_set at h
  split at h
  · split at h
    · split at h
      · cases h; rw [List.length_set]
      · cases h
    · cases h
  · cases h
theorem ev_si_len {ty : FieldType} {st st' : List Value} {w w' : ev_W} (h : ev_si ty st w = some (st', w')) : w'.length = w.length := by
  unfold ev_si at h
  split at h
  · split at h
    · split at h
      · cases h; rw [List.length_set]
      · cases h
    · cases h
  · cases h
theorem ev_sl_len {st st' : List Value} {w w' : ev_W} (h : ev_sl st w = some (st', w')) : w'.length = w.length := by
  unfold ev_sl at h
  split at h
  · split at h
    · split at h
      · cases h; rw [List.length_set]
      · cases h
    · cases h
  · cases h
theorem ev_sa_len {st st' : List Value} {w w' : ev_W} (h : ev_sa st w = some (st', w')) : w'.length = w.length := by
  unfold ev_sa at h
  split at h
  · split at h
    · split at h
      · split at h
        · cases h; rw [List.length_set]
        · cases h
      · cases h
    · cases h
  · cases h
theorem ev_cpy_len {st st' : List Value} {w w' : ev_W} (h : ev_cpy st w = some (st', w')) : w'.length = w.length := by
  unfold ev_cpy at h
  split at h
  · split at h
    · split at h
      · split at h
        · cases h; rw [List.length_set]
        · cases h
      · split at h
        · cases h; rw [List.length_set]
        · cases h
      · cases h
    · cases h
  · cases h
theorem ev_newa_len {t : Option Nat} {z : (Nat → Int32) ⊕ (Nat → Int64) ⊕ (Nat → UInt32) ⊕ (Nat → UInt64) ⊕ (Nat → Option Nat)} {st st' : List Value} {w w' : ev_W} {dk dn : Nat} (h : ev_newa t z st w = some (st', w', dk, dn)) : w'.length = w.length + dk := by
  unfold ev_newa at h
  split at h
  · split at h
    · cases h; simp
    · cases h
  · cases h
theorem ev_new_len {own x : Nat} {st st' : List Value} {w w' : ev_W} {dk dn : Nat} (h : ev_new own x st w = some (st', w', dk, dn)) : w'.length = w.length + dk := by
  unfold ev_new at h
  split at h
  · split at h
    · cases h; simp
    · cases h
  · cases h
theorem ev_opt {α β : Type} {o : Option α} {f : α → β} {y : β} (h : o.map f = some y) : ∃ x, o = some x ∧ f x = y := by
  cases o with
  | none => cases h
  | some x => exact ⟨x, rfl, Option.some.inj h⟩
section EVS9
variable {p : Program} {l : Launch} {e : Env} {R : Room} {s : State} {m : MethodId} {args : Array Value} {below : List Frame} {meth : Method} {c : Code} {Q : State → Prop} {D : va_G} {tc : Nat → ClassId} {b nL own : Nat} {cc : ByteArray} {H0 : Heap}
/-- a step on the heap -/
theorem ev_sh {d : Nat} {K : ev_K} {ini : Bool} {i : Instr} {len pc k n dk dn : Nat} {lv : ev_L} {st st' : List Value} {w w' : ev_W} (E : ev_E p s m args meth c D tc b nL own cc H0) (hK : ev_KS l D tc b d K) (hRf : d + 1 ≤ R.frames) (hRl : 200 * d + 200 ≤ R.locals) (hI : ini = true → meth.name = "<init>") (hd : decode cc pc = .ok (i, len)) (h : ev_h K own ini i len st w = some (st', w', dk, dn)) (hRc : k + dk ≤ R.cells) (hRs : n + dn ≤ R.slots) (kk : ev_G p l e R s m args below meth c D tc b nL H0 Q (pc + len) lv st' w' (k + dk) (n + dn)) : ev_G p l e R s m args below meth c D tc b nL H0 Q pc lv st w k n := by
  unfold ev_h at h
  split at h
  · split at h
    · next hl =>
      subst hl
      split at h
      · obtain ⟨v, hv, hq⟩ := ev_opt h
        cases hq
        exact ev_s_get E hd hv kk
      · cases h
    · cases h
  · split at h
    · next hl =>
      subst hl
      split at h
      · obtain ⟨v, hv, hq⟩ := ev_opt h
        cases hq
        exact ev_s_set E hI hd hv kk
      · cases h
    · cases h
  · split at h
    · next hl => subst hl; obtain ⟨v, hv, hq⟩ := ev_opt h; cases hq; exact ev_s_ai E (Or.inl ⟨rfl, rfl⟩) hd hv kk
    · cases h
  · split at h
    · next hl => subst hl; obtain ⟨v, hv, hq⟩ := ev_opt h; cases hq; exact ev_s_ai E (Or.inr ⟨rfl, rfl⟩) hd hv kk
    · cases h
  · split at h
    · next hl => subst hl; obtain ⟨v, hv, hq⟩ := ev_opt h; cases hq; exact ev_s_al E hd hv kk
    · cases h
  · split at h
    · next hl => subst hl; obtain ⟨v, hv, hq⟩ := ev_opt h; cases hq; exact ev_s_aa E hd hv kk
    · cases h
  · split at h
    · next hl => subst hl; obtain ⟨v, hv, hq⟩ := ev_opt h; cases hq; exact ev_s_si E (Or.inl ⟨rfl, rfl⟩) hd hv kk
    · cases h
  · split at h
    · next hl => subst hl; obtain ⟨v, hv, hq⟩ := ev_opt h; cases hq; exact ev_s_si E (Or.inr ⟨rfl, rfl⟩) hd hv kk
    · cases h
  · split at h
    · next hl => subst hl; obtain ⟨v, hv, hq⟩ := ev_opt h; cases hq; exact ev_s_sl E hd hv kk
    · cases h
  · split at h
    · next hl => subst hl; obtain ⟨v, hv, hq⟩ := ev_opt h; cases hq; exact ev_s_sa E hd hv kk
    · cases h
  · split at h
    · next hl => subst hl; obtain ⟨v, hv, hq⟩ := ev_opt h; cases hq; exact ev_s_alen E hd hv kk
    · cases h
  · split at h
    · next hl =>
      subst hl
      split at h
      · next t z hz => exact ev_s_newa E hd hz h hRc hRs kk
      · cases h
    · cases h
  · split at h
    · next hl =>
      subst hl
      split at h
      · next ci q0 hc => exact ev_s_anew E hd hc h hRc hRs kk
      · cases h
    · cases h
  · split at h
    · next hl => subst hl; exact ev_s_new E hd h hRc hRs kk
    · cases h
  · split at h
    · next hl =>
      subst hl
      unfold ev_stat at h
      split at h
      · next kd j nn rest hm =>
        obtain ⟨q1, q2, q3⟩ := rest
        split at h
        · next hk2 =>
          subst hk2
          obtain ⟨v, hv, hq⟩ := ev_opt h
          cases hq
          exact ev_s_cpy E (by omega) (by omega) hd hm hv kk
        · split at h
          · next hk8 =>
            obtain ⟨v, hv, hq⟩ := ev_opt h
            cases hq
            exact ev_s_math E (by omega) (by omega) hRc hRs hd hm hv kk
          · split at h
            · next hk0 =>
              split at h
              · next As st2 hpop =>
                split at h
                · next hcat =>
                  unfold ev_back at h
                  obtain ⟨r, hr, hq⟩ := ev_opt h
                  cases hq
                  exact ev_s_stat (q := default) E hK hRf hRl hd hm hk0 hpop hcat hr hRc hRs kk
                · cases h
              · cases h
            · cases h
      · cases h
    · cases h
  · split at h
    · next hl =>
      subst hl
      unfold ev_virt at h
      split at h
      · next kd j nn rest hm =>
        obtain ⟨q1, q2, q3⟩ := rest
        split at h
        · next hk0 =>
          split at h
          · next As rb st2 hpop =>
            split at h
            · next ci fs q hw hq =>
              split at h
              · next hc =>
                unfold ev_back at h
                obtain ⟨r, hr, hq2⟩ := ev_opt h
                cases hq2
                exact ev_s_virt E hK hRf hRl hd hm hk0 hpop hc.1 hw hq hc.2 hr hRc hRs kk
              · cases h
            · cases h
          · cases h
        · cases h
      · cases h
    · cases h
  · split at h
    · next hl =>
      subst hl
      unfold ev_spec at h
      split at h
      · next kd j nn rest hm =>
        obtain ⟨q1, q2, q3⟩ := rest
        split at h
        · next hk1 =>
          subst hk1
          split at h
          · split at h
            · next hcat => cases h; exact ev_s_obj E (by omega) (by omega) hd hm hcat kk
            · cases h
          · cases h
        · split at h
          · next hk0 =>
            split at h
            · next As rb st2 hpop =>
              split at h
              · next hcat =>
                unfold ev_back at h
                obtain ⟨r, hr, hq2⟩ := ev_opt h
                cases hq2
                exact ev_s_spec E hK hRf hRl hd hm hk0 hpop hcat hr (ev_mts hm hk0) hRc hRs kk
              · cases h
            · cases h
          · cases h
      · cases h
    · cases h
  · cases h
/-- a return -/
theorem ev_sr {ret : Option FieldType} {i : Instr} {len pc k n : Nat} {lv : ev_L} {st : List Value} {w : ev_W} {v : Option Value} (E : ev_E p s m args meth c D tc b nL own cc s.heap) (hret : meth.sig.returnType = ret) (hd : decode cc pc = .ok (i, len)) (h : ev_ret ret i len st = some v) : ev_G p l e R s m args below meth c D tc b nL s.heap (MQ below (ev_Qc D tc b (v, w, k, n)) args s k n (fun z => b ≤ z)) pc lv st w k n := by
  obtain ⟨hx, hb, hml, hown, hts, hU, hb0, hlk⟩ := E
  intro H locs ls hz hP hS hl
  unfold ev_ret at h
  split at h
  · split at h
    · next hc =>
      obtain ⟨rfl, rfl, rfl⟩ := hc
      cases h
      exact W.vret hx hb hret (fun t ht hW => ⟨⟨rfl, by rw [ht]; exact hP⟩, hS.F ht⟩) hS.2.2 hd
    · cases h
  · split at h
    · next hl1 =>
      subst hl1
      split at h
      · next x =>
        split at h
        · next hc =>
          cases h
          rcases hc with rfl | ⟨rfl, hv⟩
          · exact W.iret hx hb hret (fun t ht hW => ⟨⟨rfl, by rw [ht]; exact hP⟩, hS.F ht⟩) hS.2.2 hd
          · refine W.zret hx hb hret ?_ (fun t ht hW => ⟨⟨rfl, by rw [ht]; exact hP⟩, hS.F ht⟩) hS.2.2 hd
            rcases hv with rfl | rfl <;> decide
        · cases h
      · cases h
    · cases h
  · split at h
    · next hl1 =>
      subst hl1
      split at h
      · next x =>
        split at h
        · next hc =>
          cases h
          exact W.lret hx hb (hret.trans hc) (fun t ht hW => ⟨⟨rfl, by rw [ht]; exact hP⟩, hS.F ht⟩) hS.2.2 hd
        · cases h
      · cases h
    · cases h
  · split at h
    · next hl1 =>
      subst hl1
      split at h
      · next x =>
        split at h
        · next nm =>
          cases h
          exact W.aret hx hb hret (Or.inl ⟨_, rfl⟩) (Or.inr ⟨_, rfl⟩) (fun t ht hW => ⟨⟨rfl, by rw [ht]; exact hP⟩, hS.F ht⟩) hS.2.2 hd
        · cases h
      · cases h
    · cases h
  · cases h
end EVS9
