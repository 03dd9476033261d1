/-! New cells, copies, Math -/
section EVS5
variable {p : Program} {l : Launch} {e : Env} {R : Room} {s : State} {m : MethodId} {args : Array Value} {below : List Frame} {meth : Method} {c : Code} {Q : State → Prop} {D : va_G} {tc : Nat → ClassId} {b nL own : Nat} {cc : ByteArray} {H0 : Heap}
theorem ev_inis {i : Nat} (h : i < 19) : Cond.initialized (ev_nm i) ∈ ev_ws := by
  have h1 := List.all_eq_true.mp ev_ini_all i (List.mem_range.mpr h)
  simp only [decide_eq_true_eq] at h1
  exact ev_wsI h1 rfl
theorem ev_clsw {x ci q0 : Nat} (h : ev_cls own x = some (ci, q0)) : Cond.classLink (ev_nm own) x (ev_nm ci) ∈ ev_ws := by
  obtain ⟨h0, e1, e2⟩ := ev_look_key h
  have h1 := List.all_eq_true.mp ev_cls_all _ h0
  simp only [ev_clsC, e1, e2, decide_eq_true_eq] at h1
  exact ev_wsI h1 rfl
theorem ev_ac0 : Jvm.Cond.arrayClass .int ∈ ev_ws := ev_wsI (q := ev_acP.getD 0 0) (by decide +kernel) rfl
theorem ev_ac1 : Jvm.Cond.arrayClass .long ∈ ev_ws := ev_wsI (q := ev_acP.getD 1 0) (by decide +kernel) rfl
theorem ev_ac2 : Jvm.Cond.arrayClass .boolean ∈ ev_ws := ev_wsI (q := ev_acP.getD 2 0) (by decide +kernel) rfl
theorem ev_nat : Jvm.Cond.native arraycopyName ∈ ev_ws := ev_wsI (q := ev_natP) (by decide +kernel) rfl
theorem ev_obj : Jvm.Cond.code Lib.objectInit ⟨#[0xb1]⟩ 1 none ∈ ev_ws := ev_wsI (q := ev_objP) (by decide +kernel) rfl
theorem ev_cv_def (ty : FieldType) : ev_cv b (defaultValue ty) = defaultValue ty := by cases ty <;> rfl
theorem ev_s_new {x pc k n : Nat} {lv : ev_L} {st st' : List Value} {w w' : ev_W} {dk dn : Nat} (E : ev_E p s m args meth c D tc b nL own cc H0) (hd : decode cc pc = .ok (.new x, 3)) (h : ev_new own x st w = some (st', w', dk, dn)) (hRc : k + dk ≤ R.cells) (hRs : n + dn ≤ R.slots) (kk : ev_G p l e R s m args below meth c D tc b nL H0 Q (pc + 3) lv st' w' (k + dk) (n + dn)) : ev_G p l e R s m args below meth c D tc b nL H0 Q pc lv st w k n := by
  obtain ⟨hx, hb, hml, hown, hts, hU, hb0, hlk⟩ := E
  unfold ev_new at h
  split at h
  · next ci q0 hcl =>
    split at h
    · next hlt =>
      cases h
      have hq := List.getElem?_eq_getElem hlt
      generalize ev_cl[ci] = q at hq
      obtain ⟨c1, c2, c3, c4, c5, c6, c7⟩ := ev_cla hq
      have hty0 : ∀ j, j < q.2.2 → parseFieldDescriptor (q.2.1 j).2.2.1 = some ((ev_cty ci).getD j .int) := fun j hj => by
        rw [c4 j hj, List.getD_eq_getElem?_getD]
        have : j < (ev_cty ci).length := by rw [c3]; exact hj
        rw [List.getElem?_eq_getElem this]; rfl
      have hci : ci < 19 := Nat.lt_trans (ev_cl_lt hq) (by decide)
      intro H locs ls hz hP hS hl
      refine va_new (ci := ci) (fs := (ev_cty ci).map defaultValue) (C := q.1) (T := q.2.1) (N := q.2.2) hx hb hts c2 _ hty0 hown (by rw [c1]; exact hts _ (ev_clsw hcl)) (hts _ c5) (by rw [c1]; exact hts _ (ev_inis hci)) hU.1 hP (ev_cw_D b tc w) hS (fun z hz => Nat.le_trans hb0 hz) hq ?_ hRc (by rw [← c3]; exact hRs) hd (fun z H1 hP1 hD1 hS1 => ?_)
      · intro j hj
        have hj' : j < (ev_cty ci).length := by rw [c3]; exact hj
        simp [vp_V, List.getD_eq_getElem?_getD, List.getElem?_eq_getElem hj']
      · refine ev_size (fun hH1 => ?_)
        have hzz : z = b + w.length := ev_fresh hP1 hD1 (by omega)
        subst hzz
        rw [← c3]
        refine kk H1 locs ls ?_ ?_ hS1 hl
        · rw [List.length_append]; simp; omega
        · rw [ev_cw_push]
          have : ev_ca b tc (Sum.inr (ci, (ev_cty ci).map defaultValue)) = Sum.inr (ci, (ev_cty ci).map defaultValue) := by
            simp only [ev_ca, List.map_map]
            congr 2
            apply List.map_congr_left
            intro ty _
            exact ev_cv_def ty
          rw [this]
          exact hP1
    · cases h
  · cases h
theorem ev_s_newa {ty : ArrayType} {t pc k n : Nat} {z : (Nat → Int32) ⊕ (Nat → Int64) ⊕ (Nat → UInt32) ⊕ (Nat → UInt64) ⊕ (Nat → Option Nat)} {lv : ev_L} {st st' : List Value} {w w' : ev_W} {dk dn : Nat} (E : ev_E p s m args meth c D tc b nL own cc H0) (hd : decode cc pc = .ok (.newarray ty, 2)) (hzr : ev_zero ty = some (t, z)) (h : ev_newa (some t) z st w = some (st', w', dk, dn)) (hRc : k + dk ≤ R.cells) (hRs : n + dn ≤ R.slots) (kk : ev_G p l e R s m args below meth c D tc b nL H0 Q (pc + 2) lv st' w' (k + dk) (n + dn)) : ev_G p l e R s m args below meth c D tc b nL H0 Q pc lv st w k n := by
  obtain ⟨hx, hb, hml, hown, hts, hU, hb0, hlk⟩ := E
  unfold ev_newa at h
  split at h
  · next N st2 t2 ht2 =>
    cases ht2
    split at h
    · next hN =>
      cases h
      intro H locs ls hz hP hS hl
      have key : ∀ (fty : FieldType), newarray.typeOf ty = fty → Jvm.Cond.arrayClass fty ∈ ev_ws → (ev_tys tc)[t]? = some (tc t, fty) → (∀ cA : ClassId, vp_cell cA (N.toNatClampNeg, z) = arrV cA N.toNatClampNeg (fun _ => defaultValue fty)) → ev_cx b z = z → N.toNatClampNeg * componentBytes fty ≤ 536870912 → (∀ cA, va_RA s cA fty → va_RA s (tc t) fty → cA = tc t) → W p l e R s m args below meth c H locs k n Q (F0 m pc ls ((Value.int N :: st2).map (ev_cv b))) := by
        intro fty hfty hac hty hcell hcx hby hRA
        refine va_newa (a0 := (N.toNatClampNeg, z)) hx hb (by rw [hfty]; exact hts _ hac) hfty hU.1 hP (ev_cw_D b tc w) hS (fun z hz => Nat.le_trans hb0 hz) hcell hN.1 rfl hby hRc hRs hd (fun q cA H1 hK1 hP1 hD1 hS1 => ?_)
        refine ev_size (fun hH1 => ?_)
        have hq : q = b + w.length := ev_fresh hP1 hD1 (by omega)
        subst hq
        have hcA : cA = tc t := hRA cA (hK1.2 (ev_tys tc).length (cA, fty) (by simp)).2 (hU.1.2 t _ hty).2
        subst hcA
        refine kk H1 locs ls ?_ ?_ hS1 hl
        · rw [List.length_append]; simp; omega
        · rw [ev_cw_push]
          simp only [ev_ca, hcx]
          exact hP1
      unfold ev_zero at hzr
      split at hzr
      · cases hzr
        exact key .int rfl ev_ac0 rfl (fun _ => rfl) rfl (by have := hN.2; simp only [componentBytes]; omega) (fun cA h1 h2 => Option.some.inj ((h1 : s.vm.findClass _ = _).symm.trans h2))
      · cases hzr
        exact key .long rfl ev_ac1 rfl (fun _ => rfl) rfl (by have := hN.2; simp only [componentBytes]; omega) (fun cA h1 h2 => Option.some.inj ((h1 : s.vm.findClass _ = _).symm.trans h2))
      · cases hzr
        exact key .boolean rfl ev_ac2 rfl (fun _ => rfl) rfl (by have := hN.2; simp only [componentBytes]; omega) (fun cA h1 h2 => Option.some.inj ((h1 : s.vm.findClass _ = _).symm.trans h2))
      · cases hzr
    · cases h
  · cases h
theorem ev_s_anew {x ci q0 pc k n : Nat} {lv : ev_L} {st st' : List Value} {w w' : ev_W} {dk dn : Nat} (E : ev_E p s m args meth c D tc b nL own cc H0) (hd : decode cc pc = .ok (.anewarray x, 3)) (hcl : ev_cls own x = some (ci, q0)) (h : ev_newa (ev_arrT ci) (.inr (.inr (.inr (.inr (fun _ => none))))) st w = some (st', w', dk, dn)) (hRc : k + dk ≤ R.cells) (hRs : n + dn ≤ R.slots) (kk : ev_G p l e R s m args below meth c D tc b nL H0 Q (pc + 3) lv st' w' (k + dk) (n + dn)) : ev_G p l e R s m args below meth c D tc b nL H0 Q pc lv st w k n := by
  obtain ⟨hx, hb, hml, hown, hts, hU, hb0, hlk⟩ := E
  unfold ev_newa at h
  split at h
  · next N st2 t ht2 =>
    split at h
    · next hN =>
      cases h
      intro H locs ls hz hP hS hl
      have key : ∀ (C : String), ev_nm ci = C → va_AO C s → (ev_tys tc)[t]? = some (tc t, .object C) → W p l e R s m args below meth c H locs k n Q (F0 m pc ls ((Value.int N :: st2).map (ev_cv b))) := by
        intro C hC hao hty
        refine va_newq hx hb hown (by have := hts _ (ev_clsw hcl); rw [hC] at this; exact this) hao hU.1 hP (ev_cw_D b tc w) hS (fun z hz => Nat.le_trans hb0 hz) hN.1 rfl (by have := hN.2; omega) hRc hRs hd (fun q cA H1 hK1 hP1 hD1 hS1 => ?_)
        refine ev_size (fun hH1 => ?_)
        have hq : q = b + w.length := ev_fresh hP1 hD1 (by omega)
        subst hq
        have hcA : cA = tc t := by
          obtain ⟨_, _, _, _, _, g1⟩ := (hK1.2 (ev_tys tc).length (cA, .object C) (by simp)).2
          obtain ⟨_, _, _, _, _, g2⟩ := (hU.1.2 t _ hty).2
          exact Option.some.inj (g1.symm.trans g2)
        subst hcA
        refine kk H1 locs ls ?_ ?_ hS1 hl
        · rw [List.length_append]; simp; omega
        · rw [ev_cw_push]
          exact hP1
      unfold ev_arrT at ht2
      split at ht2
      · cases ht2; exact key _ rfl hU.2.2.1 rfl
      · cases ht2; exact key _ rfl hU.2.2.2 rfl
      · cases ht2
    · cases h
  · cases h
end EVS5
