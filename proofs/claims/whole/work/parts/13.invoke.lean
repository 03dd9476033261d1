/-! Invocations -/
section EVS7
variable {p : Program} {l : Launch} {e : Env} {R : Room} {s : State} {m : MethodId} {args : Array Value} {below : List Frame} {meth : Method} {c : Code} {Q : State → Prop} {D : va_G} {tc : Nat → ClassId} {b nL own : Nat} {cc : ByteArray} {H0 : Heap}
theorem ev_goodIn {j : Nat} {q : ev_MT} (h : ev_mL[j]? = some q) : GoodIn ev_ws (Cond.code (ev_yN j) q.2.2.2.1 q.2.2.2.2.1 q.2.2.2.2.2.1 :: ev_ws) := by
  intro w hw
  rcases List.mem_cons.mp hw with rfl | hw
  · exact ⟨(ev_mq h).1, Or.inl rfl⟩
  · exact ⟨hw, good_of_word (List.mem_filter.mp hw).2⟩
/-- a static call -/
theorem ev_s_stat {d : Nat} {K : ev_K} {x kd j n q1 q2 q3 pc k n0 : Nat} {q : ev_MT} {lv : ev_L} {st st2 As : List Value} {w : ev_W} {r : ev_R} (E : ev_E p s m args meth c D tc b nL own cc H0) (hK : ev_KS l D tc b d K) (hRf : d + 1 ≤ R.frames) (hRl : 200 * d + 200 ≤ R.locals) (hd : decode cc pc = .ok (.invokestatic x, 3)) (hm : ev_mth own x = some (kd, j, n, q1, q2, q3)) (hkd : kd = 0 ∨ kd = 5) (hpop : ev_pop n [] st = some (As, st2)) (hcat : ev_cat st2 ≤ 8) (hr : K j As w = some r) (hRc : k + r.2.2.1 ≤ R.cells) (hRs : n0 + r.2.2.2 ≤ R.slots) (kk : ev_G p l e R s m args below meth c D tc b nL H0 Q (pc + 3) lv (r.1.toList ++ st2) r.2.1 (k + r.2.2.1) (n0 + r.2.2.2)) : ev_G p l e R s m args below meth c D tc b nL H0 Q pc lv st w k n0 := by
  obtain ⟨hx, hb, hml, hown, hts, hU, hb0, hlk⟩ := E
  obtain ⟨hW, e1, e2, hn, hq'⟩ := ev_link hm
  have hn : ev_mnL[j]? = some n := by rcases hn with h | h | h | h <;> first | exact h | omega
  obtain ⟨q, hq, h16, hq100⟩ : ∃ q, ev_mL[j]? = some q ∧ q.1 ≠ 16 ∧ q.2.2.2.2.1 < 100 := by rcases hq' with h | h | h | h <;> first | exact h | omega
  obtain ⟨hlen, hM⟩ := hK j As w r q hq h16 hr
  obtain ⟨d1, d2, d3, d4⟩ := ev_desc hq hn h16
  obtain ⟨hst, hAs⟩ := ev_pop_st (b := b) hpop
  have hini : (Cond.initialized (ev_yN j).cls).before args s = true := by rw [d1]; exact hts _ (ev_inis (ev_mq hq).2.1)
  have hR : (ev_rm d r.2.2.1 r.2.2.2).frames + 1 ≤ R.frames ∧ 8 + (q.2.2.2.2.1 + 11) + (ev_rm d r.2.2.1 r.2.2.2).locals ≤ R.locals := ⟨hRf, by show 8 + (q.2.2.2.2.1 + 11) + 200 * d ≤ R.locals; omega⟩
  intro H locs ls hz hP hS hl
  refine ev_size (fun hH => ?_)
  have hHs : H.size = b + w.length := Nat.le_antisymm (by omega) (ev_low hb0 hP hS)
  rw [hst]
  have hpre : PreS s H (ev_Pc D tc b As w) (As.map (ev_cv b)) := ⟨ev_blind, fun U hUh hUw => ⟨rfl, by rw [hUh]; exact hHs, by rw [hUh]; exact hP, ev_U_warm hUw hU⟩⟩
  have fin : ∀ hr : va_Run p l e R s m args below meth c H locs k n0 r.2.2.1 r.2.2.2 (F0 m pc ls ((As.map (ev_cv b)).reverse ++ st2.map (ev_cv b))) (st2.map (ev_cv b)) (ev_Qc D tc b r (As.map (ev_cv b)).toArray) (fun z => b ≤ z), W p l e R s m args below meth c H locs k n0 Q (F0 m pc ls ((As.map (ev_cv b)).reverse ++ st2.map (ev_cv b))) := by
    intro hr
    refine ev_call (H0 := H0) hr hS (fun H1 locs1 hP1 hS1 => ?_)
    have h1 := kk H1 locs1 ls (by rw [hlen]; omega) hP1 hS1 hl
    rw [List.map_append] at h1
    have h2 : (r.1.toList).map (ev_cv b) = (r.1.map (ev_cv b)).toList := by cases r.1 <;> rfl
    rw [h2] at h1
    exact h1
  rcases hkd with rfl | rfl
  · simp only [ev_mthW, ev_mthP, e1, e2, List.cons.injEq, and_true] at hW
    exact fin (va_runS ⟨hx, hb, hml, hown, hts⟩ hM ⟨callB_of n hts (ev_goodIn hq) rfl rfl rfl hini (hts _ (ev_wsI hW.1.symm rfl)) ⟨d2, d3, d4⟩ hR, hts _ (ev_wsI hW.2.symm rfl)⟩ hpre rfl hAs hl.1 rfl (lv_room (by rw [ev_cat_map]; exact hcat)) hd ⟨hRc, hRs⟩)
  · simp only [ev_mthW, ev_mthP, e1, e2, List.cons.injEq, and_true] at hW
    exact fin (va_runSN ⟨hx, hb, hml, hown, hts⟩ hM ⟨va_cnB n hts (ev_goodIn hq) rfl rfl rfl (hU.2.1 _ (ev_pt_mem hW.1.symm) rfl) hini ⟨d2, d3, d4⟩ hR, hts _ (ev_wsI hW.2.symm rfl), trivial⟩ hpre rfl hAs hl.1 rfl (lv_room (by rw [ev_cat_map]; exact hcat)) hd ⟨hRc, hRs⟩)
/-- a virtual call -/
theorem ev_s_virt {d : Nat} {K : ev_K} {x kd j n q1 q2 q3 pc k n0 rb ci : Nat} {q : ev_MT} {fs : List Value} {lv : ev_L} {st st2 As : List Value} {w : ev_W} {r : ev_R} (E : ev_E p s m args meth c D tc b nL own cc H0) (hK : ev_KS l D tc b d K) (hRf : d + 1 ≤ R.frames) (hRl : 200 * d + 200 ≤ R.locals) (hd : decode cc pc = .ok (.invokevirtual x, 3)) (hm : ev_mth own x = some (kd, j, n, q1, q2, q3)) (hkd : kd = 3 ∨ kd = 6) (hpop : ev_pop n [] st = some (As, .ref rb :: st2)) (hcat : ev_cat st2 ≤ 8) (hcell : w[rb]? = some (.inr (ci, fs))) (hq : ev_mL[j]? = some q) (hci : ci = q.1) (hr : K j (.ref rb :: As) w = some r) (hRc : k + r.2.2.1 ≤ R.cells) (hRs : n0 + r.2.2.2 ≤ R.slots) (kk : ev_G p l e R s m args below meth c D tc b nL H0 Q (pc + 3) lv (r.1.toList ++ st2) r.2.1 (k + r.2.2.1) (n0 + r.2.2.2)) : ev_G p l e R s m args below meth c D tc b nL H0 Q pc lv st w k n0 := by
  obtain ⟨hx, hb, hml, hown, hts, hU, hb0, hlk⟩ := E
  obtain ⟨hW, e1, e2, hn, hq'⟩ := ev_link hm
  have hn : ev_mnL[j]? = some n := by rcases hn with h | h | h | h <;> first | exact h | omega
  obtain ⟨h16, hq100⟩ : q.1 ≠ 16 ∧ q.2.2.2.2.1 < 100 := by
    rcases hq' with h | h | h | ⟨q', h, h1, h2⟩
    · omega
    · omega
    · omega
    · rw [hq] at h
      cases h
      exact ⟨h1, h2⟩
  obtain ⟨hlen, hM⟩ := hK j (.ref rb :: As) w r q hq h16 hr
  obtain ⟨d1, d2, d3, d4⟩ := ev_desc hq hn h16
  obtain ⟨hst, hAs⟩ := ev_pop_st (b := b) hpop
  have hini : (Cond.initialized (ev_yN j).cls).before args s = true := by rw [d1]; exact hts _ (ev_inis (ev_mq hq).2.1)
  have hR : (ev_rm d r.2.2.1 r.2.2.2).frames + 1 ≤ R.frames ∧ 8 + (q.2.2.2.2.1 + 11) + (ev_rm d r.2.2.1 r.2.2.2).locals ≤ R.locals := ⟨hRf, by show 8 + (q.2.2.2.2.1 + 11) + 200 * d ≤ R.locals; omega⟩
  intro H locs ls hz hP hS hl
  refine ev_size (fun hH => ?_)
  have hHs : H.size = b + w.length := Nat.le_antisymm (by omega) (ev_low hb0 hP hS)
  rw [hst]
  have hobj := hP rb _ (ev_cw_at hcell)
  obtain ⟨qc, hqc, -⟩ := hobj
  have hrecv : ∃ cellB : Cell, H[b + rb]? = some cellB ∧ cellB.vm.isStatics = false ∧ s.vm.findClass (ev_yN j).cls = some cellB.cls := by
    have h1 := va_recv hU.1 hP hqc (ev_cw_at hcell)
    rw [d1, ← hci, ← (ev_cla hqc).1]
    exact h1
  have hpre : PreV s H (ev_yN j).cls (b + rb) (ev_Pc D tc b (.ref rb :: As) w) (As.map (ev_cv b)) := ⟨ev_blind, hrecv, fun U hUh hUw => ⟨rfl, by rw [hUh]; exact hHs, by rw [hUh]; exact hP, ev_U_warm hUw hU⟩⟩
  have fin : ∀ hr : va_Run p l e R s m args below meth c H locs k n0 r.2.2.1 r.2.2.2 (F0 m pc ls ((As.map (ev_cv b)).reverse ++ .ref (b + rb) :: st2.map (ev_cv b))) (st2.map (ev_cv b)) (ev_Qc D tc b r (.ref (b + rb) :: As.map (ev_cv b)).toArray) (fun z => b ≤ z), W p l e R s m args below meth c H locs k n0 Q (F0 m pc ls ((As.map (ev_cv b)).reverse ++ (Value.ref rb :: st2).map (ev_cv b))) := by
    intro hr
    refine ev_call (H0 := H0) hr hS (fun H1 locs1 hP1 hS1 => ?_)
    have h1 := kk H1 locs1 ls (by rw [hlen]; omega) hP1 hS1 hl
    rw [List.map_append] at h1
    have h2 : (r.1.toList).map (ev_cv b) = (r.1.map (ev_cv b)).toList := by cases r.1 <;> rfl
    rw [h2] at h1
    exact h1
  rcases hkd with rfl | rfl
  · simp only [ev_mthW, ev_mthP, e1, e2, List.cons.injEq, and_true] at hW
    exact fin (va_runV ⟨hx, hb, hml, hown, hts⟩ hM ⟨callB_of n hts (ev_goodIn hq) rfl rfl rfl hini (hts _ (ev_wsI hW.1.symm rfl)) ⟨d2, d3, d4⟩ hR, hts _ (ev_wsI hW.2.1.symm rfl), hts _ (ev_wsI hW.2.2.symm rfl)⟩ hpre rfl hAs hl.1 rfl (lv_room (by rw [ev_cat_map]; exact hcat)) hd ⟨hRc, hRs⟩)
  · simp only [ev_mthW, ev_mthP, e1, e2, List.cons.injEq, and_true] at hW
    exact fin (va_runVN ⟨hx, hb, hml, hown, hts⟩ hM ⟨va_cnB n hts (ev_goodIn hq) rfl rfl rfl (hU.2.1 _ (ev_pt_mem hW.1.symm) rfl) hini ⟨d2, d3, d4⟩ hR, hts _ (ev_wsI hW.2.1.symm rfl), hts _ (ev_wsI hW.2.2.symm rfl)⟩ hpre rfl hAs hl.1 rfl (lv_room (by rw [ev_cat_map]; exact hcat)) hd ⟨hRc, hRs⟩)
end EVS7
