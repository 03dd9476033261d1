/-! Worlds of places as worlds of addresses -/
def ev_cv (b : Nat) (v : Value) : Value := match v with
  | .ref k => .ref (b + k)
  | .retAddr (n + 1) => .ref n
  | v => v
def ev_cx (b : Nat) (x : (Nat → Int32) ⊕ (Nat → Int64) ⊕ (Nat → UInt32) ⊕ (Nat → UInt64) ⊕ (Nat → Option Nat)) : (Nat → Int32) ⊕ (Nat → Int64) ⊕ (Nat → UInt32) ⊕ (Nat → UInt64) ⊕ (Nat → Option Nat) := match x with
  | .inl f => .inl f
  | .inr (.inl f) => .inr (.inl f)
  | .inr (.inr (.inl f)) => .inr (.inr (.inl f))
  | .inr (.inr (.inr (.inl f))) => .inr (.inr (.inr (.inl f)))
  | .inr (.inr (.inr (.inr f))) => .inr (.inr (.inr (.inr (fun j => (f j).map (fun k => b + k)))))
def ev_ca (b : Nat) (tc : Nat → ClassId) (e : va_E) : va_E := match e with
  | .inl (t, n, x) => .inl (tc t, n, ev_cx b x)
  | .inr (ci, fs) => .inr (ci, fs.map (ev_cv b))
def ev_cw (b : Nat) (tc : Nat → ClassId) (w : ev_W) : va_W := w.mapIdx (fun k e => (b + k, ev_ca b tc e))
theorem ev_cw_get (b : Nat) (tc : Nat → ClassId) (w : ev_W) (k : Nat) : (ev_cw b tc w)[k]? = (w[k]?).map (fun e => (b + k, ev_ca b tc e)) := by
  simp [ev_cw]
theorem ev_cw_at {b : Nat} {tc : Nat → ClassId} {w : ev_W} {k : Nat} {e : va_E} (h : w[k]? = some e) : (ev_cw b tc w)[k]? = some (b + k, ev_ca b tc e) := by
  rw [ev_cw_get, h]; rfl
theorem ev_cw_set (b : Nat) (tc : Nat → ClassId) (w : ev_W) (k : Nat) (e : va_E) : ev_cw b tc (w.set k e) = (ev_cw b tc w).set k (b + k, ev_ca b tc e) := by
  apply List.ext_getElem?
  intro i
  rw [ev_cw_get, List.getElem?_set, List.getElem?_set, ev_cw_get]
  have hlen : (ev_cw b tc w).length = w.length := by simp [ev_cw]
  rw [hlen]
  by_cases hk : k = i
  · subst hk
    by_cases hl : k < w.length
    · simp [hl]
    · simp [hl]
  · simp [hk]
theorem ev_cw_push (b : Nat) (tc : Nat → ClassId) (w : ev_W) (e : va_E) : ev_cw b tc (w ++ [e]) = ev_cw b tc w ++ [(b + w.length, ev_ca b tc e)] := by
  simp [ev_cw, List.mapIdx_append]
theorem ev_cw_D (b : Nat) (tc : Nat → ClassId) (w : ev_W) : va_D (fun q => b ≤ q) (ev_cw b tc w) := by
  refine ⟨fun i j p q hi hj e => ?_, fun k q hk => ?_⟩
  · rw [ev_cw_get] at hi hj
    cases h1 : w[i]? with
    | none => rw [h1] at hi; cases hi
    | some a =>
      cases h2 : w[j]? with
      | none => rw [h2] at hj; cases hj
      | some c =>
        rw [h1] at hi; rw [h2] at hj
        have e1 : (b + i, ev_ca b tc a) = p := Option.some.inj hi
        have e2 : (b + j, ev_ca b tc c) = q := Option.some.inj hj
        rw [← e1, ← e2] at e
        have e3 : b + i = b + j := e
        omega
  · rw [ev_cw_get] at hk
    cases h1 : w[k]? with
    | none => rw [h1] at hk; cases hk
    | some a =>
      rw [h1] at hk
      have e1 : (b + k, ev_ca b tc a) = q := Option.some.inj hk
      rw [← e1]
      exact Nat.le_add_right b k
theorem ev_cv_cat (b : Nat) (v : Value) : (ev_cv b v).category = v.category := by
  cases v with
  | retAddr n => cases n <;> rfl
  | _ => rfl
/-- locals as the kit has them -/
def ev_ll (b : Nat) (lv : ev_L) : List (Nat × Value) := (List.range lv.length).filterMap (fun i => match lv[i]? with
  | some v => if v = .retAddr 0 then none else some (i, ev_cv b v)
  | none => none)
theorem ev_ll_mem {b : Nat} {lv : ev_L} {i : Nat} {u : Value} : (i, u) ∈ ev_ll b lv ↔ ∃ v, lv[i]? = some v ∧ v ≠ .retAddr 0 ∧ u = ev_cv b v := by
  unfold ev_ll
  rw [List.mem_filterMap]
  constructor
  · rintro ⟨j, -, h⟩
    cases hj : lv[j]? with
    | none => rw [hj] at h; cases h
    | some v =>
      rw [hj] at h
      by_cases hv : v = .retAddr 0
      · simp [hv] at h
      · simp [hv] at h
        obtain ⟨rfl, rfl⟩ := h
        exact ⟨v, hj, hv, rfl⟩
  · rintro ⟨v, h1, h2, rfl⟩
    refine ⟨i, List.mem_range.mpr (List.getElem?_eq_some_iff.mp h1).1, ?_⟩
    rw [h1]
    simp [h2]
theorem ev_has_sub {ls : Array Slot} {n : Nat} {l l' : List (Nat × Value)} (h : lv_has ls n l) (hs : ∀ q ∈ l', q ∈ l) : lv_has ls n l' := ⟨h.1, h.2.1, fun q hq => h.2.2 q (hs q hq)⟩
theorem ev_at {b : Nat} {ls : Array Slot} {n : Nat} {lv : ev_L} (h : lv_has ls n (ev_ll b lv)) {i : Nat} {v : Value} (hv : lv[i]? = some v) (hn : v ≠ .retAddr 0) : ls[i]? = some (.val (ev_cv b v)) := h.2.2 (i, ev_cv b v) (ev_ll_mem.mpr ⟨v, hv, hn, rfl⟩)
theorem ev_kill_get {i j : Nat} {lv : ev_L} {v : Value} (h : (ev_kill j lv)[i]? = some v) (hv : v ≠ .retAddr 0) : lv[i]? = some v ∧ ¬ (i + 1 = j ∧ v.category = 2) := by
  cases j with
  | zero => exact ⟨h, fun q => by omega⟩
  | succ j =>
    cases hj : lv[j]? with
    | none =>
      simp only [ev_kill, hj] at h
      exact ⟨h, fun q => by
        have : i = j := by omega
        subst this
        rw [hj] at h; cases h⟩
    | some u =>
      cases u with
      | long x =>
        simp only [ev_kill, hj] at h
        rw [List.getElem?_set] at h
        by_cases hij : j = i
        · subst hij
          simp at h
          exact absurd h.2.symm hv
        · simp [hij] at h
          exact ⟨h, fun q => by omega⟩
      | double x =>
        simp only [ev_kill, hj] at h
        rw [List.getElem?_set] at h
        by_cases hij : j = i
        · subst hij
          simp at h
          exact absurd h.2.symm hv
        · simp [hij] at h
          exact ⟨h, fun q => by omega⟩
      | _ =>
        simp only [ev_kill, hj] at h
        refine ⟨h, fun q => ?_⟩
        have : i = j := by omega
        subst this
        rw [hj] at h
        cases h
        exact absurd q.2 (by simp [Value.category])
theorem ev_put1_sub {b j : Nat} {v : Value} {lv : ev_L} : ∀ q ∈ ev_ll b (ev_put1 j v lv), q ∈ (j, ev_cv b v) :: (ev_ll b lv).filter (fun q => !(q.1 == j) && !(q.1 + 1 == j && q.2.category == 2)) := by
  rintro ⟨i, u⟩ hq
  obtain ⟨v', h1, h2, rfl⟩ := ev_ll_mem.mp hq
  unfold ev_put1 at h1
  rw [List.getElem?_set] at h1
  by_cases hij : j = i
  · subst hij
    simp at h1
    rw [← h1.2]
    exact List.mem_cons_self
  · simp [hij] at h1
    obtain ⟨h3, h4⟩ := ev_kill_get h1 h2
    refine List.mem_cons_of_mem _ (List.mem_filter.mpr ⟨ev_ll_mem.mpr ⟨v', h3, h2, rfl⟩, ?_⟩)
    simp only [ev_cv_cat]
    have h5 : ¬ i = j := fun e => hij e.symm
    by_cases h6 : i + 1 = j
    · have : ¬ v'.category = 2 := fun e => h4 ⟨h6, e⟩
      simp [h5, this]
    · simp [h5, h6]
theorem ev_put2_sub {b j : Nat} {v : Value} {lv : ev_L} : ∀ q ∈ ev_ll b (ev_put2 j v lv), q ∈ (j, ev_cv b v) :: (ev_ll b lv).filter (fun q => !(q.1 == j) && (!(q.1 == j + 1) && !(q.1 + 1 == j && q.2.category == 2))) := by
  rintro ⟨i, u⟩ hq
  obtain ⟨v', h1, h2, rfl⟩ := ev_ll_mem.mp hq
  unfold ev_put2 at h1
  rw [List.getElem?_set] at h1
  by_cases hij1 : j + 1 = i
  · subst hij1
    simp at h1
    exact absurd h1.2.symm h2
  · simp only [hij1, if_false] at h1
    rw [List.getElem?_set] at h1
    by_cases hij : j = i
    · subst hij
      simp at h1
      rw [← h1.2]
      exact List.mem_cons_self
    · simp [hij] at h1
      obtain ⟨h3, h4⟩ := ev_kill_get h1 h2
      refine List.mem_cons_of_mem _ (List.mem_filter.mpr ⟨ev_ll_mem.mpr ⟨v', h3, h2, rfl⟩, ?_⟩)
      simp only [ev_cv_cat]
      have h5 : ¬ i = j := fun e => hij e.symm
      have h7 : ¬ i = j + 1 := fun e => hij1 e.symm
      by_cases h6 : i + 1 = j
      · have : ¬ v'.category = 2 := fun e => h4 ⟨h6, e⟩
        simp [h5, h7, this]
      · simp [h5, h6, h7]
/-- array types with their classes -/
def ev_tys (tc : Nat → ClassId) : List (ClassId × FieldType) := [(tc 0, .int), (tc 1, .long), (tc 2, .boolean), (tc 3, .object "GrammarGuard$Machine"), (tc 4, .object "GrammarGuard$Product")]
theorem ev_tys_at {tc : Nat → ClassId} {t : Nat} {ty : FieldType} (h : ev_atyL[t]? = some ty) : (ev_tys tc)[t]? = some (tc t, ty) := by
  unfold ev_atyL at h
  match t, h with
  | 0, h => cases h; rfl
  | 1, h => cases h; rfl
  | 2, h => cases h; rfl
  | 3, h => cases h; rfl
  | 4, h => cases h; rfl
  | t + 5, h => simp at h
