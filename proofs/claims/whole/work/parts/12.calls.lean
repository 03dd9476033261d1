/-! Calls -/
theorem ev_map_eq {α β : Type} {f g : α → β} : ∀ {l : List α}, l.map f = l.map g → ∀ r ∈ l, f r = g r
  | [], _, r, h => by cases h
  | x :: l, e, r, h => by
    rw [List.map_cons, List.map_cons, List.cons.injEq] at e
    rcases List.mem_cons.mp h with rfl | h
    · exact e.1
    · exact ev_map_eq e.2 r h
theorem ev_mtw {r : ev_MR} (h : r ∈ ev_mthL) : ev_mthW r = ev_mthP r := by
  have h1 : r ∈ ev_mth0_L ++ (ev_mth1_L ++ (ev_mth2_L ++ (ev_mth3_L ++ (ev_mth4_L ++ (ev_mth5_L ++ (ev_mth6_L ++ (ev_mth7_L ++ (ev_mth8_L ++ ev_mth9_L)))))))) := h
  simp only [List.mem_append] at h1
  rcases h1 with h | h | h | h | h | h | h | h | h | h
  · exact ev_map_eq ev_mtw0 r h
  · exact ev_map_eq ev_mtw1 r h
  · exact ev_map_eq ev_mtw2 r h
  · exact ev_map_eq ev_mtw3 r h
  · exact ev_map_eq ev_mtw4 r h
  · exact ev_map_eq ev_mtw5 r h
  · exact ev_map_eq ev_mtw6 r h
  · exact ev_map_eq ev_mtw7 r h
  · exact ev_map_eq ev_mtw8 r h
  · exact ev_map_eq ev_mtw9 r h
theorem ev_codes {q : ev_MT} (h : q ∈ ev_mL) : some q.2.2.2.1 = ev_codeAt q.2.2.2.2.2.2.2 := by
  have h1 : q ∈ ev_mL0 ++ (ev_mL1 ++ (ev_mL2 ++ (ev_mL3 ++ ev_mL4))) := h
  simp only [List.mem_append] at h1
  rcases h1 with h | h | h | h | h
  · exact ev_map_eq ev_code0 q h
  · exact ev_map_eq ev_code1 q h
  · exact ev_map_eq ev_code2 q h
  · exact ev_map_eq ev_code3 q h
  · exact ev_map_eq ev_code4 q h
theorem ev_yN_eq {j : Nat} {q : ev_MT} (h : ev_mL[j]? = some q) : ev_yN j = ⟨ev_nm q.1, q.2.1, q.2.2.1⟩ := by unfold ev_yN; rw [h]
/-- what the tables say of a method -/
theorem ev_mq {j : Nat} {q : ev_MT} (h : ev_mL[j]? = some q) : Cond.code (ev_yN j) q.2.2.2.1 q.2.2.2.2.1 q.2.2.2.2.2.1 ∈ ev_ws ∧ q.1 < 19 ∧ (q.2.2.2.2.2.2.1 = true → q.2.1 = "<init>") := by
  have hm := List.mem_of_getElem? h
  have h1 := List.all_eq_true.mp ev_mh_all q hm
  have h2 := ev_codes hm
  unfold ev_codeAt at h2
  unfold ev_mhC at h1
  rw [ev_yN_eq h]
  cases hp : ev_pt q.2.2.2.2.2.2.2 with
  | none => rw [hp] at h2; cases h2
  | some w =>
    rw [hp] at h1 h2
    cases w with
    | code y cd nl rt =>
      simp only [Bool.and_eq_true, decide_eq_true_eq] at h1
      obtain ⟨⟨a1, a2⟩, ⟨a3, a4⟩, a5⟩ := h1
      have h3 : q.2.2.2.1 = cd := Option.some.inj h2
      subst a3; subst a4; subst a5
      rw [h3]
      refine ⟨ev_wsI hp rfl, a1, fun hi => ?_⟩
      rw [hi] at a2
      exact of_decide_eq_true a2.symm
    | _ => cases h2
set_option maxRecDepth 100000 in
theorem ev_mtc_all : ev_mthL.all (fun r => decide (r.2.1 = 1) || (decide (r.2.1 = 2) || (decide (8 ≤ r.2.1) || (match ev_mL[r.2.2.1]? with
  | some q => decide (q.1 ≠ 16) && decide (q.2.2.2.2.1 < 100)
  | none => false)))) = true := by decide +kernel
section EVS6
variable {p : Program} {l : Launch} {e : Env} {R : Room} {s : State} {m : MethodId} {args : Array Value} {below : List Frame} {meth : Method} {c : Code} {Q : State → Prop} {D : va_G} {tc : Nat → ClassId} {b nL own : Nat} {cc : ByteArray} {H0 : Heap}
theorem ev_U_warm {U : State} (hW : s.WarmedH U.vm) (h : ev_U D tc s) : ev_U D tc U := by
  refine ⟨va_K.moved hW.alike h.1, fun w hw hn => ?_, va_AO.moved hW.alike h.2.2.1, va_AO.moved hW.alike h.2.2.2⟩
  have h1 := h.2.1 w hw hn
  cases w with
  | methodLinkNest a i x h => exact va_Nw.warmM hW h1
  | _ => cases hn
theorem ev_U_same {u U : State} (hvm : u.vm = U.vm) (h : ev_U D tc u) : ev_U D tc U := by
  have ha : u.vm.Alike U.vm := by rw [hvm]; exact Vm.Alike.refl _
  refine ⟨va_K.moved ha h.1, fun w hw hn => ?_, va_AO.moved ha h.2.2.1, va_AO.moved ha h.2.2.2⟩
  have h1 := h.2.1 w hw hn
  cases w with
  | methodLinkNest a i x h => exact va_Nw.same rfl hvm h1
  | _ => cases hn
def ev_rm (d k n : Nat) : Room := { frames := d, cells := k, slots := n, locals := 200 * d }
def ev_Pc (D : va_G) (tc : Nat → ClassId) (b : Nat) (As : List Value) (w : ev_W) : Array Value → State → Prop := va_Pc (As.map (ev_cv b)) (fun U => U.heap.size = b + w.length ∧ va_P D ev_cl (ev_cw b tc w) U.heap ∧ ev_U D tc U)
def ev_Qc (D : va_G) (tc : Nat → ClassId) (b : Nat) (r : ev_R) : Array Value → State → Outcome → State → Prop := fun _ st oc t => (oc = .returned (r.1.map (ev_cv b)) ∧ va_P D ev_cl (ev_cw b tc r.2.1) t.heap) ∧ va_F (fun z => b ≤ z) st t
theorem ev_blind {As : List Value} {w : ev_W} : FrameBlind (ev_Pc D tc b As w) := fun a U g mk q => by
  obtain ⟨q0, q1, qP, qU⟩ := q
  exact ⟨q0, q1, qP, ev_U_same (u := U) (U := U.calling g mk a) rfl qU⟩
/-- calls that K answers are the machine's, at most d deep -/
def ev_KS (l : Launch) (D : va_G) (tc : Nat → ClassId) (b d : Nat) (K : ev_K) : Prop := ∀ (j : Nat) (As : List Value) (w : ev_W) (r : ev_R) (q : ev_MT), ev_mL[j]? = some q → q.1 ≠ 16 → K j As w = some r → r.2.1.length = w.length + r.2.2.1 ∧ Met l (ev_yN j) (Cond.code (ev_yN j) q.2.2.2.1 q.2.2.2.2.1 q.2.2.2.2.2.1 :: ev_ws) (ev_rm d r.2.2.1 r.2.2.2) (ev_Pc D tc b As w) (ev_Qc D tc b r) r.2.2.1 r.2.2.2 (fun z => b ≤ z)
theorem ev_call {H : Heap} {locs : List Loc} {k n mc ms pc : Nat} {ls : Array Slot} {st0 rest : List Value} {r : ev_R} {a : Array Value} (hr : va_Run p l e R s m args below meth c H locs k n mc ms (F0 m pc ls st0) rest (ev_Qc D tc b r a) (fun z => b ≤ z)) (hS : va_S (fun z => b ≤ z) H0 H locs) (kk : ∀ (H1 : Heap) (locs1 : List Loc), va_P D ev_cl (ev_cw b tc r.2.1) H1 → va_S (fun z => b ≤ z) H0 H1 locs1 → W p l e R s m args below meth c H1 locs1 (k + mc) (n + ms) Q (F0 m (pc + 3) ls ((r.1.map (ev_cv b)).toList ++ rest))) : W p l e R s m args below meth c H locs k n Q (F0 m pc ls st0) := by
  intro T hT X
  obtain ⟨v, st₀, t, T', L, h0, X', hL, e1, e2, ⟨⟨hv, hp⟩, hz, hk⟩, st⟩ := hr T hT X
  have hv' : v = r.1.map (ev_cv b) := by injection hv
  subst hv'
  rw [h0] at hz hk
  obtain ⟨t2, a1, b1⟩ := kk T'.heap (locs ++ L) (by rw [e1]; exact hp) ⟨Nat.le_trans hS.1 (by rw [e1]; exact hz), fun q h1 h2 => by rw [e1, hk q (Nat.lt_of_lt_of_le h1 hS.1) h2]; exact hS.2.1 q h1 h2, fun q hq => by
      rcases List.mem_append.mp hq with h | h
      · exact hS.2.2 q h
      · exact hL q h⟩ T' rfl X'
  exact ⟨t2, st t2 a1, b1⟩
theorem ev_pop_eq : ∀ {n : Nat} {acc st As st2 : List Value}, ev_pop n acc st = some (As, st2) → ∃ t, st = t ++ st2 ∧ As = t.reverse ++ acc ∧ t.length = n
  | 0, acc, st, As, st2, h => by
    simp only [ev_pop, Option.some.injEq, Prod.mk.injEq] at h
    obtain ⟨rfl, rfl⟩ := h
    exact ⟨[], rfl, rfl, rfl⟩
  | n + 1, acc, v :: st, As, st2, h => by
    obtain ⟨t, h1, h2, h3⟩ := ev_pop_eq (n := n) (acc := v :: acc) h
    exact ⟨v :: t, by rw [h1]; rfl, by rw [h2]; simp, by simp [h3]⟩
  | n + 1, acc, [], As, st2, h => by cases h
theorem ev_pop_st {n : Nat} {st As st2 : List Value} (h : ev_pop n [] st = some (As, st2)) : st.map (ev_cv b) = (As.map (ev_cv b)).reverse ++ st2.map (ev_cv b) ∧ (As.map (ev_cv b)).length = n := by
  obtain ⟨t, h1, h2, h3⟩ := ev_pop_eq h
  subst h1; subst h2
  refine ⟨by simp, by simp [h3]⟩
theorem ev_cat_map (st : List Value) : ((st.map (ev_cv b)).map fun v => v.category).sum = ev_cat st := by
  unfold ev_cat
  rw [List.map_map]
  congr 1
  apply List.map_congr_left
  intro v _
  exact ev_cv_cat b v
theorem ev_link {x kd j n q1 q2 q3 : Nat} (h : ev_mth own x = some (kd, j, n, q1, q2, q3)) : ev_mthW (own * 1000 + x, kd, j, n, q1, q2, q3) = ev_mthP (own * 1000 + x, kd, j, n, q1, q2, q3) ∧ (own * 1000 + x) / 1000 = own ∧ (own * 1000 + x) % 1000 = x ∧ (kd = 1 ∨ kd = 2 ∨ 8 ≤ kd ∨ ev_mnL[j]? = some n) ∧ (kd = 1 ∨ kd = 2 ∨ 8 ≤ kd ∨ ∃ q, ev_mL[j]? = some q ∧ q.1 ≠ 16 ∧ q.2.2.2.2.1 < 100) := by
  obtain ⟨h0, e1, e2⟩ := ev_look_key h
  have h1 := List.all_eq_true.mp ev_mtn_all _ h0
  have h2 := List.all_eq_true.mp ev_mtc_all _ h0
  refine ⟨ev_mtw h0, e1, e2, ?_, ?_⟩
  · simpa using h1
  · simp only [Bool.or_eq_true, decide_eq_true_eq] at h2
    rcases h2 with h2 | h2 | h2 | h2
    · exact Or.inl h2
    · exact Or.inr (Or.inl h2)
    · exact Or.inr (Or.inr (Or.inl h2))
    · refine Or.inr (Or.inr (Or.inr ?_))
      split at h2
      · next q hq =>
        simp only [Bool.and_eq_true, decide_eq_true_eq] at h2
        exact ⟨q, hq, h2.1, h2.2⟩
      · cases h2
set_option maxRecDepth 100000 in
theorem ev_mL_len : ev_mL.length = 291 := by decide +kernel
theorem ev_desc {j n : Nat} {q : ev_MT} (hj : ev_mL[j]? = some q) (hn : ev_mnL[j]? = some n) (h16 : q.1 ≠ 16) : (ev_yN j).cls = ev_nm q.1 ∧ (ev_yN j).cls ≠ "java/lang/invoke/MethodHandle" ∧ (ev_yN j).cls ≠ "java/lang/invoke/VarHandle" ∧ (parseMethodDescriptor (ev_yN j).desc).map (fun d => d.parameters.length) = some n := by
  have hlt : j < 291 := by rw [← ev_mL_len]; exact (List.getElem?_eq_some_iff.mp hj).1
  have h1 := List.all_eq_true.mp ev_mn_all j (List.mem_range.mpr hlt)
  have h2 := List.all_eq_true.mp ev_pl_all q.1 (List.mem_range.mpr (ev_mq hj).2.1)
  simp only [decide_eq_true_eq] at h1
  simp only [Bool.and_eq_true, Bool.or_eq_true, decide_eq_true_eq] at h2
  have e1 : (ev_yN j).cls = ev_nm q.1 := by rw [ev_yN_eq hj]
  refine ⟨e1, by rw [e1]; exact h2.2.1, by rw [e1]; exact h2.2.2, by rw [h1, hn]⟩
end EVS6
