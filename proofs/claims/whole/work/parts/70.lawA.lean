/-! The law's frame: what its words give, and the rules by which it is walked -/
theorem lw_arr {s : State} {A : Array Value} {t : FieldType} (h : (Jvm.Cond.arrayClass t).before A s = true) : ∃ cA : ClassId, ArrOfT s cA t ∧ s.vm.findClass ("[" ++ t.toString) = some cA := by
  obtain ⟨cA, kA, comp, h1, h2, h3⟩ := Cond.arrayClass_spec h
  exact ⟨cA, fun n z => ⟨fun k h => (by cases h), kA, h2, comp, h3⟩, h1⟩
theorem lw_arO {s : State} {A : Array Value} {n : String} (h : (Jvm.Cond.arrayOver (.object n)).before A s = true) : ∃ cA : ClassId, ArrOfT s cA (.object n) ∧ va_RA s cA (.object n) := by
  obtain ⟨comp, cA, kA, h1, h2, h3, h4, h5⟩ := Cond.arrayOver_spec h
  exact ⟨cA, fun n z => ⟨fun k h => (by cases h), kA, h3, comp, h4⟩, kA, comp, h3, h4, h1, h5⟩
theorem lw_ao1 : Jvm.Cond.arrayOver (.object "GrammarGuard$Machine") ∈ lw_tbl := ev_pt_mem (q := 1221) (by decide +kernel)
theorem lw_ao2 : Jvm.Cond.arrayOver (.object "GrammarGuard$Product") ∈ lw_tbl := ev_pt_mem (q := 2162) (by decide +kernel)
theorem lw_cls {s : State} {A : Array Value} (hts : ∀ w ∈ lw_tbl, w.before A s = true) (z : ClassId) (i : Nat) : ∃ x : ClassId × (Nat → Nat), ∀ q, ev_cl[i]? = some q → u_Kn s q.1 q.2.1 q.2.2 x.1 x.2 := by
  cases hq : ev_cl[i]? with
  | none => exact ⟨(z, fun _ => 0), fun q h => by cases h⟩
  | some q =>
    obtain ⟨e1, e2, e3, e4, e5, e6, e7⟩ := ev_cla hq
    obtain ⟨cC, iS, hk⟩ := u_known (ws := ev_ws) (fun w hw => hts w (List.mem_filter.mp hw).1) e2 (hts _ (List.mem_filter.mp e5).1)
    exact ⟨(cC, iS), fun q' h' => by cases h'; exact hk⟩
/-- what the tables say, out of the law's words -/
theorem lw_U {s : State} {A : Array Value} (hts : ∀ w ∈ lw_tbl, w.before A s = true) : ∃ (D : va_G) (tc : Nat → ClassId), ev_U D tc s := by
  obtain ⟨c0, a0, b0⟩ := lw_arr (hts _ (List.mem_filter.mp ev_ac0).1)
  obtain ⟨c1, a1, b1⟩ := lw_arr (hts _ (List.mem_filter.mp ev_ac1).1)
  obtain ⟨c2, a2, b2⟩ := lw_arr (hts _ (List.mem_filter.mp ev_ac2).1)
  obtain ⟨c3, a3, b3⟩ := lw_arO (hts _ lw_ao1)
  obtain ⟨c4, a4, b4⟩ := lw_arO (hts _ lw_ao2)
  have h := lw_cls hts c0
  refine ⟨(fun i => (h i).choose.1, fun i => (h i).choose.2), fun t => match t with
    | 0 => c0
    | 1 => c1
    | 2 => c2
    | 3 => c3
    | _ => c4, ⟨fun i q hq => (h i).choose_spec q hq, fun k q hq => ?_⟩, fun w hw hn => ?_, va_AO.of (hts _ lw_ao1), va_AO.of (hts _ lw_ao2)⟩
  · match k, hq with
    | 0, hq => cases hq; exact ⟨a0, b0⟩
    | 1, hq => cases hq; exact ⟨a1, b1⟩
    | 2, hq => cases hq; exact ⟨a2, b2⟩
    | 3, hq => cases hq; exact ⟨a3, b3⟩
    | 4, hq => cases hq; exact ⟨a4, b4⟩
    | k + 5, hq => simp [ev_tys] at hq
  · cases w with
    | methodLinkNest a i x h => exact va_Nw.of rfl (hts _ hw)
    | _ => cases hn
/-- the rules of the law's frame, G: where it stands -/
def lwG (G : Nat → ev_L → List Value → uS → Prop) (b0 L : Nat) (xs : Nat → Int32) : Prop :=
  (∀ (i : Instr) (len pc : Nat) (lv lv' : ev_L) (st st' : List Value) (u : uS), decode code pc = .ok (i, len) → ev_p 13 4 i len lv st = some (lv', st') → G (pc + len) lv' st' u → G pc lv st u) ∧
  (∀ (i : Instr) (len pc pc' : Nat) (lv : ev_L) (st st' : List Value) (u : uS), decode code pc = .ok (i, len) → ev_b i len pc st = some (pc', st') → G pc' lv st' u → G pc lv st u) ∧
  (∀ (x j n rb ci pc : Nat) (q : Nat × Nat × Nat) (qm : ev_MT) (lv : ev_L) (st As st2 : List Value) (u : uS) (P : Option Value → uS → Prop), decode code pc = .ok (.invokevirtual x, 3) → ev_mth 13 x = some (3, j, n, q) → ev_pop n [] st = some (As, .ref rb :: st2) → ev_cat st2 ≤ 8 → isO rb ci → ev_mL[j]? = some qm → ci = qm.1 → cU 400 j (.ref rb :: As) u P → (∀ v u', P v u' → G (pc + 3) lv (v.toList ++ st2) u') → G pc lv st u) ∧
  (∀ (pc : Nat) (lv : ev_L) (st : List Value) (u : uS), decode code pc = .ok (.aload_n 0, 1) → lv[0]? = some (.retAddr (b0 + 1)) → G (pc + 1) lv (.retAddr (b0 + 1) :: st) u → G pc lv st u) ∧
  (∀ (pc : Nat) (lv : ev_L) (st : List Value) (u : uS) (i : Int32), decode code pc = .ok (.iaload, 1) → vp_in i L → G (pc + 1) lv (.int (xs i.toNatClampNeg) :: st) u → G pc lv (.int i :: .retAddr (b0 + 1) :: st) u) ∧
  (∀ (pc : Nat) (lv : ev_L) (st : List Value) (u : uS), decode code pc = .ok (.arraylength, 1) → G (pc + 1) lv (.int (nI L) :: st) u → G pc lv (.retAddr (b0 + 1) :: st) u) ∧
  (∀ (pc : Nat) (lv : ev_L) (u : uS), decode code pc = .ok (.ireturn, 1) → G pc lv [.int 1] u)
theorem lw_lwG {p : Program} {l : Launch} {e : Env} {s : State} {m : MethodId} {below : List Frame} {meth : Method} {c : Code} {D : va_G} {tc : Nat → ClassId} {b0 L N k0 : Nat} {xs : Nat → Int32} (E : ev_E p s m #[Value.ref b0] meth c D tc s.heap.size 4 13 code s.heap) (hr : meth.sig.returnType = ret) (hX : va_X b0 L xs s s.heap) (hbl : b0 < s.heap.size) (hN : N ≤ 7302250) (hk0 : k0 ≤ 600000) : lwG (fun pc lv st u => ev_G p l e room_1 s m #[Value.ref b0] below meth c D tc s.heap.size 4 s.heap (lw_Z below #[Value.ref b0] s) pc lv st (wo u) k0 N) b0 L xs := by
  obtain ⟨hx, hb, hml, hown, hts, hU, hb0, hlk⟩ := id E
  have hbA : ¬ (fun q : Nat => s.heap.size ≤ q) b0 := Nat.not_le.mpr hbl
  refine ⟨?_, ?_, ?_, ?_, ?_, ?_, ?_⟩
  · intro i len pc lv lv' st st' u hd h kk
    exact ev_sp E hd h kk
  · intro i len pc pc' lv st st' u hd h kk
    exact ev_sb E hd h kk
  · intro x j n rb ci pc q qm lv st As st2 u P hd hm hp hc ho hq hci hM kk
    obtain ⟨f, v, w', hm', u', hw', hP⟩ := hM
    obtain ⟨q1, q2, q3⟩ := q
    rw [hw'] at hm'
    have hP2 := kk v u' hP
    dsimp only at hP2 ⊢
    generalize wo u' = w2 at hm' hP2
    have hcell := wo_obj (u := u) ho
    generalize wo u = w1 at hm' hcell ⊢
    exact ev_s_virt (r := (v, w2, 0, 0)) E (ev_sound l D tc s.heap.size 400 f) (Nat.le_of_ble_eq_true rfl) (Nat.le_of_ble_eq_true rfl) hd hm (Or.inl rfl) hp hc hcell hq hci hm' (show k0 + 0 ≤ 600000 by omega) (show N + 0 ≤ 7302250 by omega) hP2
  · intro pc lv st u hd hv kk H locs ls hz hP hS hl
    exact lv_aload_n hx hb hd rfl (ev_at hl hv (by intro q; cases q)) (kk H locs ls hz hP hS hl)
  · intro pc lv st u i hd hi kk H locs ls hz hP hS hl
    exact va_sld hx hb hX hbl hbA hS hi hd (kk H locs ls hz hP hS hl)
  · intro pc lv st u hd kk H locs ls hz hP hS hl
    exact va_slen hx hb hX hbl hbA hS hd (kk H locs ls hz hP hS hl)
  · intro pc lv u hd H locs ls hz hP hS hl
    refine va_forget (fun q hq => hS.2.2 q hq) ?_
    refine W.widen (k := 600000) (n := 7302250) (by omega) hN ?_
    exact lw_ret hx hb hr hlk hd
