/-! Steps on the heap: fields and arrays -/
section EVS3
variable {p : Program} {l : Launch} {e : Env} {R : Room} {s : State} {m : MethodId} {args : Array Value} {below : List Frame} {meth : Method} {c : Code} {Q : State → Prop} {D : va_G} {tc : Nat → ClassId} {b nL own : Nat} {cc : ByteArray} {H0 : Heap}
theorem ev_wsI {q : Nat} {w : Jvm.Cond} (h : ev_pt q = some w) (hg : goodWord w = true) : w ∈ ev_ws := List.mem_filter.mpr ⟨ev_pt_mem h, hg⟩
theorem ev_cl_lt {i : Nat} {q : vw_C} (h : ev_cl[i]? = some q) : i < 13 := (List.getElem?_eq_some_iff.mp h).1
/-- what the tables say of an owner -/
theorem ev_cla {i : Nat} {q : vw_C} (h : ev_cl[i]? = some q) : q.1 = ev_nm i ∧ (∀ w ∈ u_ws q.1 q.2.1 q.2.2, w ∈ ev_ws) ∧ (ev_cty i).length = q.2.2 ∧ (∀ k, k < q.2.2 → parseFieldDescriptor (q.2.1 k).2.2.1 = (ev_cty i)[k]?) ∧ Cond.instantiable q.1 q.2.2 ∈ ev_ws ∧ (∀ k, k < q.2.2 → (q.2.1 k).1 = q.1) ∧ (∀ x, x < q.2.2 → ∀ y, y < q.2.2 → x ≠ y → (q.2.1 x).2.1 ≠ (q.2.1 y).2.1) := by
  have h1 := List.all_eq_true.mp ev_cla_all i (List.mem_range.mpr (ev_cl_lt h))
  have h2 := List.all_eq_true.mp ev_nodup_all i (List.mem_range.mpr (ev_cl_lt h))
  unfold ev_claC at h1
  unfold ev_nodup at h2
  rw [h] at h1 h2
  cases hp : ev_layP[i]? with
  | none => rw [hp] at h1; cases h1
  | some ps =>
    cases hpi : ev_insP[i]? with
    | none => rw [hp, hpi] at h1; cases h1
    | some pi =>
      rw [hp, hpi] at h1
      simp only [Bool.and_eq_true, decide_eq_true_eq, List.all_eq_true, List.mem_range] at h1
      simp only [List.all_eq_true, List.mem_range, decide_eq_true_eq] at h2
      obtain ⟨⟨⟨⟨⟨a1, a2⟩, a3⟩, a4⟩, a5⟩, a6⟩ := h1
      refine ⟨a1, fun w hw => ?_, a3, a4, ev_wsI a5 rfl, a6, fun x hx y hy hne => ?_⟩
      · have hw' : w ∈ (List.range q.2.2).map (u_lay q.1 q.2.1) := hw
        rw [a2] at hw'
        obtain ⟨j, -, hj⟩ := List.mem_filterMap.mp hw'
        obtain ⟨k, -, rfl⟩ := List.mem_map.mp hw
        refine ev_wsI hj ?_
        unfold u_lay
        split <;> rfl
      · rcases Nat.lt_or_ge y x with hlt | hge
        · exact h2 x hx y hlt
        · exact fun e => h2 y hy x (by omega) e.symm
theorem ev_flds {x ci k q0 : Nat} (h : ev_fld own x = some (ci, k, q0)) : ∃ q : vw_C, ev_cl[ci]? = some q ∧ k < q.2.2 ∧ Cond.fieldLink (ev_nm own) x q.1 (q.2.1 k).2.1 (q.2.1 k).2.2.1 ∈ ev_ws := by
  obtain ⟨h0, e1, e2⟩ := ev_look_key h
  have h1 := List.all_eq_true.mp ev_fld_all _ h0
  simp only [ev_fldC, e1, e2] at h1
  cases hq : ev_cl[ci]? with
  | none => rw [hq] at h1; cases h1
  | some q =>
    rw [hq] at h1
    simp only [Bool.and_eq_true, decide_eq_true_eq] at h1
    obtain ⟨⟨⟨a1, a2⟩, -⟩, -⟩ := h1
    exact ⟨q, rfl, a1, ev_wsI a2 rfl⟩
theorem ev_s_get {x a pc k n : Nat} {v : Value} {lv : ev_L} {st : List Value} {w : ev_W} (E : ev_E p s m args meth c D tc b nL own cc H0) (hd : decode cc pc = .ok (.getfield x, 3)) (h : ev_get own x a w = some v) (kk : ev_G p l e R s m args below meth c D tc b nL H0 Q (pc + 3) lv (v :: st) w k n) : ev_G p l e R s m args below meth c D tc b nL H0 Q pc lv (.ref a :: st) w k n := by
  obtain ⟨hx, hb, hml, hown, hts, hU, hb0, hlk⟩ := E
  unfold ev_get at h
  split at h
  · next ci kf q0 hf =>
    split at h
    · next cj fs hw =>
      split at h
      · next hc =>
        subst hc
        obtain ⟨q, hq, hk, hlink⟩ := ev_flds hf
        obtain ⟨c1, c2, c3, c4, c5, c6, c7⟩ := ev_cla hq
        intro H locs ls hz hP hS hl
        exact va_get (D := D) (ci := cj) (v := ev_cv b v) (C := q.1) (T := q.2.1) (N := q.2.2) hx hb hts c2 hown hU.1 hP a (ev_cw_at hw) hq kf hk (hts _ hlink) (fun z hz => by rw [c6 kf hk] at hz; exact hz) (by rw [List.getElem?_map, h]; rfl) hd (kk H locs ls hz hP hS hl)
      · cases h
    · cases h
  · cases h
theorem ev_fit_ok {ty : FieldType} {v : Value} (h : ev_fit ty v = true) : narrow ty (ev_cv b v) = ev_cv b v ∧ fits ty (ev_cv b v) = true := by
  unfold ev_fit at h
  split at h
  · exact ⟨rfl, rfl⟩
  · exact ⟨rfl, rfl⟩
  · next x =>
    simp only [Bool.or_eq_true, decide_eq_true_eq] at h
    rcases h with rfl | rfl
    · exact ⟨(by decide : narrow .boolean (.int 0) = .int 0), (by decide : fits .boolean (.int 0) = true)⟩
    · exact ⟨(by decide : narrow .boolean (.int 1) = .int 1), (by decide : fits .boolean (.int 1) = true)⟩
  · exact ⟨rfl, rfl⟩
  · exact ⟨rfl, rfl⟩
  · exact ⟨rfl, rfl⟩
  · exact ⟨rfl, rfl⟩
  · cases h
theorem ev_s_set {ini : Bool} {x a pc k n : Nat} {v : Value} {lv : ev_L} {st : List Value} {w w' : ev_W} (E : ev_E p s m args meth c D tc b nL own cc H0) (hI : ini = true → meth.name = "<init>") (hd : decode cc pc = .ok (.putfield x, 3)) (h : ev_set own ini x a v w = some w') (kk : ev_G p l e R s m args below meth c D tc b nL H0 Q (pc + 3) lv st w' k n) : ev_G p l e R s m args below meth c D tc b nL H0 Q pc lv (v :: .ref a :: st) w k n := by
  obtain ⟨hx, hb, hml, hown, hts, hU, hb0, hlk⟩ := E
  unfold ev_set at h
  split at h
  · next ci kf q0 hf =>
    split at h
    · next cj fs ty hw hty =>
      split at h
      · next hc =>
        obtain ⟨rfl, hkl, hfit, hfin⟩ := hc
        cases h
        obtain ⟨q, hq, hk, hlink⟩ := ev_flds hf
        obtain ⟨c1, c2, c3, c4, c5, c6, c7⟩ := ev_cla hq
        obtain ⟨hn, hft⟩ := ev_fit_ok (b := b) hfit
        have hty0 : ∀ j, j < q.2.2 → parseFieldDescriptor (q.2.1 j).2.2.1 = some ((ev_cty cj).getD j .int) := fun j hj => by
          rw [c4 j hj, List.getD_eq_getElem?_getD]
          have : j < (ev_cty cj).length := by rw [c3]; exact hj
          rw [List.getElem?_eq_getElem this]; rfl
        intro H locs ls hz hP hS hl
        have hset : (ev_cw b tc w).set a (b + a, Sum.inr (cj, (fs.map (ev_cv b)).set kf (ev_cv b v))) = ev_cw b tc (w.set a (Sum.inr (cj, fs.set kf v))) := by
          rw [ev_cw_set]; simp only [ev_ca, List.map_set]
        have hfq : ev_fin cj kf = (q.2.1 kf).2.2.2 := by unfold ev_fin; rw [hq]
        have hz' : s.heap.size + k = b + (w.set a (Sum.inr (cj, fs.set kf v))).length := by rw [List.length_set]; exact hz
        cases hfv : (q.2.1 kf).2.2.2 with
        | false =>
          exact va_put (D := D) (ci := cj) (v := ev_cv b v) (ty := ty) (C := q.1) (T := q.2.1) (N := q.2.2) hx hb hts c2 _ hty0 c7 hown hU.1 hP (ev_cw_D b tc w) hS a (ev_cw_at hw) hq kf hk (hts _ hlink) (fun z hz => by rw [c6 kf hk] at hz; exact hz) hfv (by rw [c4 kf hk]; exact hty) hn hft (by rw [List.length_map]; exact hkl) hd
            (fun H1 locs1 hP1 hD1 hS1 => kk H1 locs1 ls hz' (by rw [hset] at hP1; exact hP1) hS1 hl)
        | true =>
          obtain ⟨hi, ho⟩ := hfin (by rw [hfq]; exact hfv)
          exact va_putF (D := D) (ci := cj) (v := ev_cv b v) (ty := ty) (C := q.1) (T := q.2.1) (N := q.2.2) hx hb hts c2 _ hty0 c7 hown hU.1 hP (ev_cw_D b tc w) hS a (ev_cw_at hw) hq kf hk (hts _ hlink) (fun z hz => by rw [c6 kf hk] at hz; exact hz) hfv (hI hi) (by rw [c6 kf hk, c1, ho]) (by rw [c4 kf hk]; exact hty) hn hft (by rw [List.length_map]; exact hkl) hd
            (fun H1 locs1 hP1 hD1 hS1 => kk H1 locs1 ls hz' (by rw [hset] at hP1; exact hP1) hS1 hl)
      · cases h
    · cases h
  · cases h
theorem ev_in_vp {i : Int32} {n : Nat} (h : ev_in i n = true) : vp_in i n := by
  unfold ev_in at h
  show ¬ (i < 0 ∨ n ≤ i.toNatClampNeg)
  exact of_decide_eq_true h
theorem ev_s_ai {ty : FieldType} {i : Instr} {pc k n : Nat} {v : Value} {lv : ev_L} {st st' : List Value} {w : ev_W} (E : ev_E p s m args meth c D tc b nL own cc H0) (hi : (i = .iaload ∧ ty = .int) ∨ (i = .baload ∧ ty = .boolean)) (hd : decode cc pc = .ok (i, 1)) (h : ev_ai ty st w = some (v, st')) (kk : ev_G p l e R s m args below meth c D tc b nL H0 Q (pc + 1) lv (v :: st') w k n) : ev_G p l e R s m args below meth c D tc b nL H0 Q pc lv st w k n := by
  obtain ⟨hx, hb, hml, hown, hts, hU, hb0, hlk⟩ := E
  unfold ev_ai at h
  split at h
  · next j a st2 =>
    split at h
    · next t n0 f hw =>
      split at h
      · next hc =>
        cases h
        intro H locs ls hz hP hS hl
        rcases hi with ⟨rfl, rfl⟩ | ⟨rfl, rfl⟩
        · exact va_iald hx hb hU.1 hP a t (ev_cw_at hw) (ev_tys_at hc.1) (ev_in_vp hc.2) hd (kk H locs ls hz hP hS hl)
        · exact va_zald hx hb hU.1 hP a t (ev_cw_at hw) (ev_tys_at hc.1) (ev_in_vp hc.2) hd (kk H locs ls hz hP hS hl)
      · cases h
    · cases h
  · cases h
theorem ev_s_al {pc k n : Nat} {v : Value} {lv : ev_L} {st st' : List Value} {w : ev_W} (E : ev_E p s m args meth c D tc b nL own cc H0) (hd : decode cc pc = .ok (.laload, 1)) (h : ev_al st w = some (v, st')) (kk : ev_G p l e R s m args below meth c D tc b nL H0 Q (pc + 1) lv (v :: st') w k n) : ev_G p l e R s m args below meth c D tc b nL H0 Q pc lv st w k n := by
  obtain ⟨hx, hb, hml, hown, hts, hU, hb0, hlk⟩ := E
  unfold ev_al at h
  split at h
  · next j a st2 =>
    split at h
    · next t n0 f hw =>
      split at h
      · next hc =>
        cases h
        intro H locs ls hz hP hS hl
        exact va_lald hx hb hU.1 hP a t (ev_cw_at hw) (ev_tys_at hc.1) (ev_in_vp hc.2) hd (kk H locs ls hz hP hS hl)
      · cases h
    · cases h
  · cases h
theorem ev_s_aa {pc k n : Nat} {v : Value} {lv : ev_L} {st st' : List Value} {w : ev_W} (E : ev_E p s m args meth c D tc b nL own cc H0) (hd : decode cc pc = .ok (.aaload, 1)) (h : ev_aa st w = some (v, st')) (kk : ev_G p l e R s m args below meth c D tc b nL H0 Q (pc + 1) lv (v :: st') w k n) : ev_G p l e R s m args below meth c D tc b nL H0 Q pc lv st w k n := by
  obtain ⟨hx, hb, hml, hown, hts, hU, hb0, hlk⟩ := E
  unfold ev_aa at h
  split at h
  · next j a st2 =>
    split at h
    · next t n0 f hw =>
      split at h
      · next C v0 hty hv0 =>
        split at h
        · next hc =>
          cases h
          intro H locs ls hz hP hS hl
          refine va_aldq hx hb hU.1 hP a t (ev_cw_at hw) (ev_tys_at hty) (ev_in_vp hc) hd ?_
          rw [hv0]
          exact kk H locs ls hz hP hS hl
        · cases h
      · cases h
    · cases h
  · cases h
end EVS3
