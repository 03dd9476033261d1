/-! Constructors, natives, returns; the evaluator is sound -/
section EVS8
variable {p : Program} {l : Launch} {e : Env} {R : Room} {s : State} {m : MethodId} {args : Array Value} {below : List Frame} {meth : Method} {c : Code} {Q : State → Prop} {D : va_G} {tc : Nat → ClassId} {b nL own : Nat} {cc : ByteArray} {H0 : Heap}
/-- a constructor's call -/
theorem ev_s_spec {d : Nat} {K : ev_K} {x kd j n q1 q2 q3 pc k n0 rb : Nat} {lv : ev_L} {st st2 As : List Value} {w : ev_W} {r : ev_R} (E : ev_E p s m args meth c D tc b nL own cc H0) (hK : ev_KS l D tc b d K) (hRf : d + 1 ≤ R.frames) (hRl : 200 * d + 200 ≤ R.locals) (hd : decode cc pc = .ok (.invokespecial x, 3)) (hm : ev_mth own x = some (kd, j, n, q1, q2, q3)) (hkd : kd = 4 ∨ kd = 7) (hpop : ev_pop n [] st = some (As, .ref rb :: st2)) (hcat : ev_cat st2 ≤ 8) (hr : K j (.ref rb :: As) w = some r) (hnone : ∀ q, ev_mL[j]? = some q → q.2.2.2.2.2.1 = none ∧ q.2.1 = "<init>") (hRc : k + r.2.2.1 ≤ R.cells) (hRs : n0 + r.2.2.2 ≤ R.slots) (kk : ev_G p l e R s m args below meth c D tc b nL H0 Q (pc + 3) lv (r.1.toList ++ st2) r.2.1 (k + r.2.2.1) (n0 + r.2.2.2)) : ev_G p l e R s m args below meth c D tc b nL H0 Q pc lv st w k n0 := by
  obtain ⟨hx, hb, hml, hown, hts, hU, hb0, hlk⟩ := E
  obtain ⟨hW, e1, e2, hn, hq'⟩ := ev_link hm
  have hn : ev_mnL[j]? = some n := by rcases hn with h | h | h | h <;> first | exact h | omega
  obtain ⟨q, hq, h16, hq100⟩ : ∃ q, ev_mL[j]? = some q ∧ q.1 ≠ 16 ∧ q.2.2.2.2.1 < 100 := by rcases hq' with h | h | h | h <;> first | exact h | omega
  obtain ⟨hno, hin⟩ := hnone q hq
  obtain ⟨hlen, hM⟩ := hK j (.ref rb :: As) w r q hq h16 hr
  obtain ⟨d1, d2, d3, d4⟩ := ev_desc hq hn h16
  obtain ⟨hst, hAs⟩ := ev_pop_st (b := b) hpop
  have hini : (Cond.initialized (ev_yN j).cls).before args s = true := by rw [d1]; exact hts _ (ev_inis (ev_mq hq).2.1)
  have hR : (ev_rm d r.2.2.1 r.2.2.2).frames + 1 ≤ R.frames ∧ 8 + (q.2.2.2.2.1 + 11) + (ev_rm d r.2.2.1 r.2.2.2).locals ≤ R.locals := ⟨hRf, by show 8 + (q.2.2.2.2.1 + 11) + 200 * d ≤ R.locals; omega⟩
  have hname : (ev_yN j).name = "<init>" := by rw [ev_yN_eq hq]; exact hin
  have hG := ev_goodIn hq
  rw [hno] at hM hG
  intro H locs ls hz hP hS hl
  refine ev_size (fun hH => ?_)
  have hHs : H.size = b + w.length := Nat.le_antisymm (by omega) (ev_low hb0 hP hS)
  rw [hst]
  have hpre : PreS s H (ev_Pc D tc b (.ref rb :: As) w) (.ref (b + rb) :: As.map (ev_cv b)) := ⟨ev_blind, fun U hUh hUw => ⟨rfl, by rw [hUh]; exact hHs, by rw [hUh]; exact hP, ev_U_warm hUw hU⟩⟩
  have fin : ∀ hr : va_Run p l e R s m args below meth c H locs k n0 r.2.2.1 r.2.2.2 (F0 m pc ls ((As.map (ev_cv b)).reverse ++ .ref (b + rb) :: st2.map (ev_cv b))) (st2.map (ev_cv b)) (ev_Qc D tc b r (.ref (b + rb) :: As.map (ev_cv b)).toArray) (fun z => b ≤ z), W p l e R s m args below meth c H locs k n0 Q (F0 m pc ls ((As.map (ev_cv b)).reverse ++ (Value.ref rb :: st2).map (ev_cv b))) := by
    intro hr
    refine ev_call (H0 := H0) hr hS (fun H1 locs1 hP1 hS1 => ?_)
    have h1 := kk H1 locs1 ls (by rw [hlen]; omega) hP1 hS1 hl
    rw [List.map_append] at h1
    have h2 : (r.1.toList).map (ev_cv b) = (r.1.map (ev_cv b)).toList := by cases r.1 <;> rfl
    rw [h2] at h1
    exact h1
  rcases hkd with rfl | rfl
  · simp only [ev_mthW, ev_mthP, e1, e2, List.cons.injEq, and_true] at hW
    exact fin (va_runI ⟨hx, hb, hml, hown, hts⟩ hM ⟨callB_of n hts hG rfl rfl rfl hini (hts _ (ev_wsI hW.1.symm rfl)) ⟨d2, d3, d4⟩ hR, hname, hts _ (ev_wsI hW.2.symm rfl)⟩ hpre rfl hAs hl.1 rfl (lv_room (by rw [ev_cat_map]; exact hcat)) hd ⟨hRc, hRs⟩)
  · simp only [ev_mthW, ev_mthP, e1, e2, List.cons.injEq, and_true] at hW
    exact fin (va_runIN ⟨hx, hb, hml, hown, hts⟩ hM ⟨va_cnB n hts hG rfl rfl rfl (hU.2.1 _ (ev_pt_mem hW.1.symm) rfl) hini ⟨d2, d3, d4⟩ hR, hname, hts _ (ev_wsI hW.2.symm rfl)⟩ hpre rfl hAs hl.1 rfl (lv_room (by rw [ev_cat_map]; exact hcat)) hd ⟨hRc, hRs⟩)
/-- Object's constructor -/
theorem ev_s_obj {x j n q1 q2 q3 pc k n0 a : Nat} {lv : ev_L} {st : List Value} {w : ev_W} (E : ev_E p s m args meth c D tc b nL own cc H0) (hRf : 1 ≤ R.frames) (hRl : 200 ≤ R.locals) (hd : decode cc pc = .ok (.invokespecial x, 3)) (hm : ev_mth own x = some (1, j, n, q1, q2, q3)) (hcat : ev_cat st ≤ 8) (kk : ev_G p l e R s m args below meth c D tc b nL H0 Q (pc + 3) lv st w k n0) : ev_G p l e R s m args below meth c D tc b nL H0 Q pc lv (.ref a :: st) w k n0 := by
  obtain ⟨hx, hb, hml, hown, hts, hU, hb0, hlk⟩ := E
  obtain ⟨hW, e1, e2, -, -⟩ := ev_link hm
  simp only [ev_mthW, ev_mthP, e1, e2, List.cons.injEq, and_true] at hW
  intro H locs ls hz hP hS hl
  refine W.objInit (a := b + a) (rest := st.map (ev_cv b)) hx hb hown (hts _ (ev_wsI hW.1.symm rfl)) (hts _ (ev_wsI hW.2.symm rfl)) (hts _ ev_obj) rfl (by rw [hml]; exact hl.1) rfl hd hRf ?_ (kk H locs ls hz hP hS hl)
  have := lv_room (m := m) (pc := pc) (ls := ls) (rest := (Value.ref a :: st).map (ev_cv b)) (st := st.map (ev_cv b)) (by rw [ev_cat_map]; exact hcat)
  omega
/-- System.arraycopy -/
theorem ev_s_cpy {x j n q1 q2 q3 pc k n0 : Nat} {lv : ev_L} {st st' : List Value} {w w' : ev_W} (E : ev_E p s m args meth c D tc b nL own cc H0) (hRf : 1 ≤ R.frames) (hRl : 200 ≤ R.locals) (hd : decode cc pc = .ok (.invokestatic x, 3)) (hm : ev_mth own x = some (2, j, n, q1, q2, q3)) (h : ev_cpy st w = some (st', w')) (kk : ev_G p l e R s m args below meth c D tc b nL H0 Q (pc + 3) lv st' w' k n0) : ev_G p l e R s m args below meth c D tc b nL H0 Q pc lv st w k n0 := by
  obtain ⟨hx, hb, hml, hown, hts, hU, hb0, hlk⟩ := E
  obtain ⟨hW, e1, e2, -, -⟩ := ev_link hm
  simp only [ev_mthW, ev_mthP, e1, e2, List.cons.injEq, and_true] at hW
  have hnw : nativeFrameWords "java/lang/System" "arraycopy" 5 = 7 := by decide
  have hsys : (Cond.initialized "java/lang/System").before args s = true := hts _ (ev_inis (i := 15) (by decide))
  unfold ev_cpy at h
  split at h
  · next N dp a1 sp a0 st2 =>
    split at h
    · next hc =>
      obtain ⟨h1, h2, h3, h4⟩ := hc
      split at h
      · next t0 n0' f t1 n1 g hw0 hw1 =>
        split at h
        · next hc2 =>
          cases h
          intro H locs ls hz hP hS hl
          refine va_copyi hx hb (by rw [hml]; exact hl.1.symm) hown (hts _ (ev_wsI hW.1.symm rfl)) (hts _ ev_nat) (hts _ (ev_wsI hW.2.symm rfl)) hsys hU.1 hP (ev_cw_D b tc w) hS a0 a1 t0 t1 (ev_cw_at hw0) (ev_cw_at hw1) (ev_tys_at hc2.1) (ev_tys_at hc2.2.1) rfl h1 h2 h3 hc2.2.2.1 hc2.2.2.2 (fun _ _ => rfl) hRf (by rw [hnw, ev_cat_map]; omega) hd (fun H1 locs1 hP1 hD1 hS1 => ?_)
          refine kk H1 locs1 ls (by rw [List.length_set]; exact hz) ?_ hS1 hl
          rw [ev_cw_set]
          exact hP1
        · cases h
      · next t0 n0' f t1 n1 g hw0 hw1 =>
        split at h
        · next hc2 =>
          cases h
          intro H locs ls hz hP hS hl
          refine va_copyl hx hb (by rw [hml]; exact hl.1.symm) hown (hts _ (ev_wsI hW.1.symm rfl)) (hts _ ev_nat) (hts _ (ev_wsI hW.2.symm rfl)) hsys hU.1 hP (ev_cw_D b tc w) hS a0 a1 t0 t1 (ev_cw_at hw0) (ev_cw_at hw1) (ev_tys_at hc2.1) (ev_tys_at hc2.2.1) rfl h1 h2 h3 hc2.2.2.1 hc2.2.2.2 (fun _ _ => rfl) hRf (by rw [hnw, ev_cat_map]; omega) hd (fun H1 locs1 hP1 hD1 hS1 => ?_)
          refine kk H1 locs1 ls (by rw [List.length_set]; exact hz) ?_ hS1 hl
          rw [ev_cw_set]
          exact hP1
        · cases h
      · cases h
    · cases h
  · cases h
/-- Math.max, Math.min -/
theorem ev_s_math {x kd j n q1 q2 q3 pc k n0 : Nat} {lv : ev_L} {st st' : List Value} {w : ev_W} (E : ev_E p s m args meth c D tc b nL own cc H0) (hRf : 1 ≤ R.frames) (hRl : 200 ≤ R.locals) (hRc : k ≤ R.cells) (hRs : n0 ≤ R.slots) (hd : decode cc pc = .ok (.invokestatic x, 3)) (hm : ev_mth own x = some (kd, j, n, q1, q2, q3)) (h : ev_math kd st = some st') (kk : ev_G p l e R s m args below meth c D tc b nL H0 Q (pc + 3) lv st' w k n0) : ev_G p l e R s m args below meth c D tc b nL H0 Q pc lv st w k n0 := by
  obtain ⟨hx, hb, hml, hown, hts, hU, hb0, hlk⟩ := E
  obtain ⟨hW, e1, e2, -, -⟩ := ev_link hm
  have hmath : (Cond.initialized "java/lang/Math").before args s = true := hts _ (ev_inis (i := 16) (by decide))
  unfold ev_math at h
  split at h
  · split at h
    · next hc =>
      split at h
      · next hk =>
        subst hk
        cases h
        simp only [ev_mthW, ev_mthP, e1, e2, List.cons.injEq, and_true] at hW
        intro H locs ls hz hP hS hl
        exact va_mmax hx hb (by rw [hml]; exact hl.1.symm) hown (hts _ (ev_wsI hW.1.symm rfl)) (hts _ (ev_wsI hW.2.1.symm rfl)) hmath (hts _ (ev_wsI hW.2.2.symm rfl)) hRf (by rw [ev_cat_map]; omega) hRc hRs hd (kk H locs ls hz hP hS hl)
      · split at h
        · next hk =>
          subst hk
          cases h
          simp only [ev_mthW, ev_mthP, e1, e2, List.cons.injEq, and_true] at hW
          intro H locs ls hz hP hS hl
          exact va_mmin hx hb (by rw [hml]; exact hl.1.symm) hown (hts _ (ev_wsI hW.1.symm rfl)) (hts _ (ev_wsI hW.2.1.symm rfl)) hmath (hts _ (ev_wsI hW.2.2.symm rfl)) hRf (by rw [ev_cat_map]; omega) hRc hRs hd (kk H locs ls hz hP hS hl)
        · cases h
    · cases h
  · split at h
    · next hc =>
      obtain ⟨hc, hk⟩ := hc
      subst hk
      cases h
      simp only [ev_mthW, ev_mthP, e1, e2, List.cons.injEq, and_true] at hW
      intro H locs ls hz hP hS hl
      exact va_mmin_long hx hb (by rw [hml]; exact hl.1.symm) hown (hts _ (ev_wsI hW.1.symm rfl)) (hts _ (ev_wsI hW.2.1.symm rfl)) hmath (hts _ (ev_wsI hW.2.2.symm rfl)) hRf (by rw [ev_cat_map]; omega) hRc hRs hd (kk H locs ls hz hP hS hl)
    · cases h
  · cases h
end EVS8
