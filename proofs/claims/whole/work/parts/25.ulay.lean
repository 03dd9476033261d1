/-! Numbers: a world of a fixed shape, its numbers as Int, its changing references as places -/
abbrev uS : Type := (Nat → Int → Int) × (Nat → Int → Nat)
abbrev iV (x : Int) : Value := .int (Int32.ofInt x)
abbrev lV (x : Int) : Value := .long (Int64.ofInt x)
abbrev rI (x : Int) : Prop := -2147483648 ≤ x ∧ x < 2147483648
abbrev rL (x : Int) : Prop := -9223372036854775808 ≤ x ∧ x < 9223372036854775808
/-- a field by its kind: 0 int, 1 long, 2 boolean, 3 a changing reference, o + 4 the cell o places behind the object -/
def fv (u : uS) (a k kd : Nat) : Value := match kd with
  | 0 => iV (u.1 a k)
  | 1 => lV (u.1 a k)
  | 2 => iV (u.1 a k)
  | 3 => .ref (u.2 a k)
  | o + 4 => .ref (a + o)
def ent (u : uS) (a : Nat) (s : Nat × Nat × Nat × Nat) : va_E := match s.1 with
  | 0 => .inl (0, s.2.1, .inl (fun i => Int32.ofInt (u.1 a i)))
  | 1 => .inl (1, s.2.1, .inr (.inl (fun i => Int64.ofInt (u.1 a i))))
  | 2 => .inl (2, s.2.1, .inl (fun i => Int32.ofInt (u.1 a i)))
  | 3 => .inl (3, s.2.1, .inr (.inr (.inr (.inr (fun i => if i < s.2.1 then some (a + s.2.2.1 + s.2.2.2 * i) else none)))))
  | 4 => .inl (4, s.2.1, .inr (.inr (.inr (.inr (fun i => if i < s.2.1 then some (a + s.2.2.1 + s.2.2.2 * i) else none)))))
  | c + 5 => .inr (c, (fk c).mapIdx (fun k kd => fv u a k kd))
def wo (u : uS) : ev_W := shp.mapIdx (fun a s => ent u a s)
abbrev isO (a ci : Nat) : Prop := shp[a]? = some (ci + 5, 0, 0, 0)
abbrev isA (a t n : Nat) : Prop := shp[a]? = some (t, n, 0, 0)
abbrev isR (a t n o s : Nat) : Prop := shp[a]? = some (t, n, o, s)
def wr (u : uS) (a : Nat) (i x : Int) : uS := (fun b j => if b = a ∧ j = i then x else u.1 b j, u.2)
def wq (u : uS) (a : Nat) (i : Int) (p : Nat) : uS := (u.1, fun b j => if b = a ∧ j = i then p else u.2 b j)
/-- System.arraycopy -/
def cpy (u : uS) (p : Nat) (sp : Int) (q : Nat) (dp n : Int) : uS := (fun b j => if b = q ∧ dp ≤ j ∧ j < dp + n then u.1 p (sp + (j - dp)) else u.1 b j, u.2)
theorem wr_1 {u : uS} {a b : Nat} {i j x : Int} : (wr u a i x).1 b j = if b = a ∧ j = i then x else u.1 b j := rfl
theorem wr_2 {u : uS} {a : Nat} {i x : Int} : (wr u a i x).2 = u.2 := rfl
theorem wq_1 {u : uS} {a p : Nat} {i : Int} : (wq u a i p).1 = u.1 := rfl
theorem wq_2 {u : uS} {a b p : Nat} {i j : Int} : (wq u a i p).2 b j = if b = a ∧ j = i then p else u.2 b j := rfl
theorem cpy_1 {u : uS} {p q b : Nat} {sp dp n j : Int} : (cpy u p sp q dp n).1 b j = if b = q ∧ dp ≤ j ∧ j < dp + n then u.1 p (sp + (j - dp)) else u.1 b j := rfl
theorem cpy_2 {u : uS} {p q : Nat} {sp dp n : Int} : (cpy u p sp q dp n).2 = u.2 := rfl
theorem wo_get {u : uS} {a : Nat} {s : Nat × Nat × Nat × Nat} (h : shp[a]? = some s) : (wo u)[a]? = some (ent u a s) := by
  unfold wo
  rw [List.getElem?_mapIdx, h]
  rfl
theorem ent_congr {u u' : uS} {b : Nat} (h1 : u'.1 b = u.1 b) (h2 : u'.2 b = u.2 b) (s : Nat × Nat × Nat × Nat) : ent u' b s = ent u b s := by
  simp only [ent, fv, h1, h2]
theorem wo_set {u u' : uS} {a : Nat} {s : Nat × Nat × Nat × Nat} (h : shp[a]? = some s) (h1 : ∀ b, b ≠ a → u'.1 b = u.1 b) (h2 : ∀ b, b ≠ a → u'.2 b = u.2 b) : (wo u).set a (ent u' a s) = wo u' := by
  apply List.ext_getElem?
  intro b
  by_cases hb : a = b
  · subst hb
    rw [wo_get h, List.getElem?_set_self]
    unfold wo
    rw [List.length_mapIdx]
    exact (List.getElem?_eq_some_iff.mp h).1
  · rw [List.getElem?_set_ne hb]
    unfold wo
    rw [List.getElem?_mapIdx, List.getElem?_mapIdx]
    cases hs : shp[b]? with
    | none => rfl
    | some s' =>
      simp only [Option.map_some]
      rw [ent_congr (h1 b (Ne.symm hb)) (h2 b (Ne.symm hb))]
theorem wr_ne {u : uS} {a b : Nat} {i x : Int} (h : b ≠ a) : (wr u a i x).1 b = u.1 b := by
  funext j
  simp [wr, h]
theorem wq_ne {u : uS} {a b p : Nat} {i : Int} (h : b ≠ a) : (wq u a i p).2 b = u.2 b := by
  funext j
  simp [wq, h]
theorem cpy_ne {u : uS} {p q b : Nat} {sp dp n : Int} (h : b ≠ q) : (cpy u p sp q dp n).1 b = u.1 b := by
  funext j
  simp [cpy, h]
theorem wo_wr {u : uS} {a : Nat} {i x : Int} {s : Nat × Nat × Nat × Nat} {e : va_E} (h : shp[a]? = some s) (he : ent (wr u a i x) a s = e) : (wo u).set a e = wo (wr u a i x) := by
  rw [← he]
  exact wo_set h (fun b hb => wr_ne hb) (fun b _ => rfl)
theorem wo_wq {u : uS} {a p : Nat} {i : Int} {s : Nat × Nat × Nat × Nat} {e : va_E} (h : shp[a]? = some s) (he : ent (wq u a i p) a s = e) : (wo u).set a e = wo (wq u a i p) := by
  rw [← he]
  exact wo_set h (fun b _ => rfl) (fun b hb => wq_ne hb)
theorem wr_fI {u : uS} {a k : Nat} {x : Int} : (fun (i : Nat) => Int32.ofInt ((wr u a k x).1 a i)) = upd (fun i => Int32.ofInt (u.1 a i)) k (Int32.ofInt x) := by
  funext i
  by_cases hi : i = k
  · subst hi
    simp [wr, upd]
  · have h2 : ¬ ((i : Int) = (k : Int)) := by omega
    simp [wr, upd, hi, h2]
theorem wr_fL {u : uS} {a k : Nat} {x : Int} : (fun (i : Nat) => Int64.ofInt ((wr u a k x).1 a i)) = vp_updL (fun i => Int64.ofInt (u.1 a i)) k (Int64.ofInt x) := by
  funext i
  by_cases hi : i = k
  · subst hi
    simp [wr, vp_updL]
  · have h2 : ¬ ((i : Int) = (k : Int)) := by omega
    simp [wr, vp_updL, hi, h2]
theorem wo_st0 {u : uS} {a n k : Nat} {x : Int} (h : isA a 0 n) : (wo u).set a (.inl (0, n, .inl (upd (fun i => Int32.ofInt (u.1 a i)) k (Int32.ofInt x)))) = wo (wr u a k x) := wo_wr h (congrArg (fun f => (Sum.inl (0, n, Sum.inl f) : va_E)) wr_fI)
theorem wo_st2 {u : uS} {a n k : Nat} {x : Int} (h : isA a 2 n) : (wo u).set a (.inl (2, n, .inl (upd (fun i => Int32.ofInt (u.1 a i)) k (Int32.ofInt x)))) = wo (wr u a k x) := wo_wr h (congrArg (fun f => (Sum.inl (2, n, Sum.inl f) : va_E)) wr_fI)
theorem wo_st1 {u : uS} {a n k : Nat} {x : Int} (h : isA a 1 n) : (wo u).set a (.inl (1, n, .inr (.inl (vp_updL (fun i => Int64.ofInt (u.1 a i)) k (Int64.ofInt x))))) = wo (wr u a k x) := wo_wr h (congrArg (fun f => (Sum.inl (1, n, Sum.inr (Sum.inl f)) : va_E)) wr_fL)
abbrev fvs (u : uS) (a ci : Nat) : List Value := (fk ci).mapIdx (fun k kd => fv u a k kd)
theorem wo_obj {u : uS} {a ci : Nat} (h : isO a ci) : (wo u)[a]? = some (.inr (ci, fvs u a ci)) := wo_get h
theorem fvs_get {u : uS} {a ci k kd : Nat} (hk : (fk ci)[k]? = some kd) : (fvs u a ci)[k]? = some (fv u a k kd) := by
  rw [List.getElem?_mapIdx, hk]
  rfl
theorem fvs_wr {u : uS} {a ci k kd : Nat} {x : Int} (hk : (fk ci)[k]? = some kd) : fvs (wr u a k x) a ci = (fvs u a ci).set k (fv (wr u a k x) a k kd) := by
  apply List.ext_getElem?
  intro m
  by_cases hm : k = m
  · subst hm
    rw [fvs_get hk, List.getElem?_set_self]
    rw [List.length_mapIdx]
    exact (List.getElem?_eq_some_iff.mp hk).1
  · rw [List.getElem?_set_ne hm, List.getElem?_mapIdx, List.getElem?_mapIdx]
    have h2 : ¬ ((m : Int) = (k : Int)) := by omega
    cases (fk ci)[m]? with
    | none => rfl
    | some kd' => simp [fv, wr, h2]
theorem fvs_wq {u : uS} {a ci k kd p : Nat} (hk : (fk ci)[k]? = some kd) : fvs (wq u a k p) a ci = (fvs u a ci).set k (fv (wq u a k p) a k kd) := by
  apply List.ext_getElem?
  intro m
  by_cases hm : k = m
  · subst hm
    rw [fvs_get hk, List.getElem?_set_self]
    rw [List.length_mapIdx]
    exact (List.getElem?_eq_some_iff.mp hk).1
  · rw [List.getElem?_set_ne hm, List.getElem?_mapIdx, List.getElem?_mapIdx]
    have h2 : ¬ ((m : Int) = (k : Int)) := by omega
    cases (fk ci)[m]? with
    | none => rfl
    | some kd' => simp [fv, wq, h2]
theorem wo_put {u : uS} {a ci k kd : Nat} {x : Int} {v : Value} (h : isO a ci) (hk : (fk ci)[k]? = some kd) (hv : fv (wr u a k x) a k kd = v) : (wo u).set a (.inr (ci, (fvs u a ci).set k v)) = wo (wr u a k x) := wo_wr h (by rw [← hv, ← fvs_wr hk]; rfl)
theorem wo_puq {u : uS} {a ci k p : Nat} (h : isO a ci) (hk : (fk ci)[k]? = some 3) : (wo u).set a (.inr (ci, (fvs u a ci).set k (.ref p))) = wo (wq u a k p) := wo_wq h (by
  have hv : fv (wq u a k p) a k 3 = .ref p := by simp [fv, wq]
  rw [← hv, ← fvs_wq hk]; rfl)
theorem wr_self {u : uS} {a : Nat} {k x : Int} : (wr u a k x).1 a k = x := by simp [wr]
/-- ranges -/
theorem ti {x : Int} (h : rI x) : (Int32.ofInt x).toInt = x := Int32.toInt_ofInt_of_le (by have := h.1; omega) (by have := h.2; omega)
theorem tl {x : Int} (h : rL x) : (Int64.ofInt x).toInt = x := Int64.toInt_ofInt_of_le (by have := h.1; omega) (by have := h.2; omega)
theorem ci_lt {x y : Int} (hx : rI x) (hy : rI y) : ev_cond .lt (Int32.ofInt x) (Int32.ofInt y) = true ↔ x < y := by
  simp only [ev_cond, decide_eq_true_eq]
  rw [Int32.lt_iff_toInt_lt, ti hx, ti hy]
theorem ci_gt {x y : Int} (hx : rI x) (hy : rI y) : ev_cond .gt (Int32.ofInt x) (Int32.ofInt y) = true ↔ y < x := by
  simp only [ev_cond, decide_eq_true_eq]
  rw [Int32.lt_iff_toInt_lt, ti hx, ti hy]
theorem ci_ge {x y : Int} (hx : rI x) (hy : rI y) : ev_cond .ge (Int32.ofInt x) (Int32.ofInt y) = true ↔ ¬ x < y := by
  simp only [ev_cond, decide_eq_true_eq]
  rw [Int32.le_iff_toInt_le, ti hx, ti hy]
  omega
theorem ci_le {x y : Int} (hx : rI x) (hy : rI y) : ev_cond .le (Int32.ofInt x) (Int32.ofInt y) = true ↔ ¬ y < x := by
  simp only [ev_cond, decide_eq_true_eq]
  rw [Int32.le_iff_toInt_le, ti hx, ti hy]
  omega
theorem ci_eq {x y : Int} (hx : rI x) (hy : rI y) : ev_cond .eq (Int32.ofInt x) (Int32.ofInt y) = true ↔ x = y := by
  simp only [ev_cond, decide_eq_true_eq]
  rw [← Int32.toInt_inj, ti hx, ti hy]
theorem ci_ne {x y : Int} (hx : rI x) (hy : rI y) : ev_cond .ne (Int32.ofInt x) (Int32.ofInt y) = true ↔ ¬ x = y := by
  simp only [ev_cond, decide_eq_true_eq]
  rw [← Int32.toInt_inj, ti hx, ti hy]
theorem z32 : Int32.ofInt 0 = 0 := rfl
theorem c0_lt {x : Int} (hx : rI x) : ev_cond .lt (Int32.ofInt x) 0 = true ↔ x < 0 := by have h := @ci_lt x 0 hx (by decide); rwa [z32] at h
theorem c0_gt {x : Int} (hx : rI x) : ev_cond .gt (Int32.ofInt x) 0 = true ↔ 0 < x := by have h := @ci_gt x 0 hx (by decide); rwa [z32] at h
theorem c0_ge {x : Int} (hx : rI x) : ev_cond .ge (Int32.ofInt x) 0 = true ↔ ¬ x < 0 := by have h := @ci_ge x 0 hx (by decide); rwa [z32] at h
theorem c0_le {x : Int} (hx : rI x) : ev_cond .le (Int32.ofInt x) 0 = true ↔ ¬ 0 < x := by have h := @ci_le x 0 hx (by decide); rwa [z32] at h
theorem c0_eq {x : Int} (hx : rI x) : ev_cond .eq (Int32.ofInt x) 0 = true ↔ x = 0 := by have h := @ci_eq x 0 hx (by decide); rwa [z32] at h
theorem c0_ne {x : Int} (hx : rI x) : ev_cond .ne (Int32.ofInt x) 0 = true ↔ ¬ x = 0 := by have h := @ci_ne x 0 hx (by decide); rwa [z32] at h
theorem cl_lt {x y : Int} (hx : rL x) (hy : rL y) : ev_cond .lt (lg_cmp (Int64.ofInt x) (Int64.ofInt y)) 0 = true ↔ x < y := by
  simp only [ev_cond, decide_eq_true_eq]
  rw [lg_cmp_lt, Int64.lt_iff_toInt_lt, tl hx, tl hy]
theorem cl_gt {x y : Int} (hx : rL x) (hy : rL y) : ev_cond .gt (lg_cmp (Int64.ofInt x) (Int64.ofInt y)) 0 = true ↔ y < x := by
  simp only [ev_cond, decide_eq_true_eq]
  rw [lg_cmp_gt, Int64.lt_iff_toInt_lt, tl hx, tl hy]
theorem cl_ge {x y : Int} (hx : rL x) (hy : rL y) : ev_cond .ge (lg_cmp (Int64.ofInt x) (Int64.ofInt y)) 0 = true ↔ ¬ x < y := by
  simp only [ev_cond, decide_eq_true_eq]
  rw [lg_cmp_ge, Int64.le_iff_toInt_le, tl hx, tl hy]
  omega
theorem cl_le {x y : Int} (hx : rL x) (hy : rL y) : ev_cond .le (lg_cmp (Int64.ofInt x) (Int64.ofInt y)) 0 = true ↔ ¬ y < x := by
  simp only [ev_cond, decide_eq_true_eq]
  rw [lg_cmp_le, Int64.le_iff_toInt_le, tl hx, tl hy]
  omega
theorem cl_eq {x y : Int} (hx : rL x) (hy : rL y) : ev_cond .eq (lg_cmp (Int64.ofInt x) (Int64.ofInt y)) 0 = true ↔ x = y := by
  simp only [ev_cond, decide_eq_true_eq]
  rw [lg_cmp_eq, ← Int64.toInt_inj, tl hx, tl hy]
theorem cl_ne {x y : Int} (hx : rL x) (hy : rL y) : ev_cond .ne (lg_cmp (Int64.ofInt x) (Int64.ofInt y)) 0 = true ↔ ¬ x = y := by
  simp only [ev_cond, decide_eq_true_eq]
  rw [lg_cmp_eq, ← Int64.toInt_inj, tl hx, tl hy]
/-- bits -/
def iand (x y : Int) : Int := (Int32.ofInt x &&& Int32.ofInt y).toInt
def ior (x y : Int) : Int := (Int32.ofInt x ||| Int32.ofInt y).toInt
def ixor (x y : Int) : Int := (Int32.ofInt x ^^^ Int32.ofInt y).toInt
def ishl (x y : Int) : Int := (Int32.ofInt x <<< (Int32.ofInt y &&& 31)).toInt
def iushr (x y : Int) : Int := ((Int32.ofInt x).toUInt32 >>> ((Int32.ofInt y).toUInt32 &&& Int32.toUInt32 31)).toInt32.toInt
def land (x y : Int) : Int := (Int64.ofInt x &&& Int64.ofInt y).toInt
def lor (x y : Int) : Int := (Int64.ofInt x ||| Int64.ofInt y).toInt
def lxor (x y : Int) : Int := (Int64.ofInt x ^^^ Int64.ofInt y).toInt
def lshl (x y : Int) : Int := (Int64.ofInt x <<< ((Int32.ofInt y).toInt64 &&& 63)).toInt
def lshr (x y : Int) : Int := (Int64.ofInt x >>> ((Int32.ofInt y).toInt64 &&& 63)).toInt
def lushr (x y : Int) : Int := ((Int64.ofInt x).toUInt64 >>> ((Int32.ofInt y).toInt64.toUInt64 &&& Int64.toUInt64 63)).toInt64.toInt
theorem ifT {c : Prop} [Decidable c] {A B : Prop} (e : c) (h : if c then A else B) : A := by rwa [if_pos e] at h
theorem ifF {c : Prop} [Decidable c] {A B : Prop} (e : ¬ c) (h : if c then A else B) : B := by rwa [if_neg e] at h
theorem sb0 : ev_sub [] [] := ⟨rfl, fun _ _ h => by cases h⟩
theorem sbK {v : Value} {l l' : ev_L} (h : ev_sub l l') : ev_sub (v :: l) (v :: l') := by
  refine ⟨by simp [h.1], fun i x hx hn => ?_⟩
  cases i with
  | zero => exact hx
  | succ i => exact h.2 i x hx hn
theorem sbD {v : Value} {l l' : ev_L} (h : ev_sub l l') : ev_sub (.retAddr 0 :: l) (v :: l') := by
  refine ⟨by simp [h.1], fun i x hx hn => ?_⟩
  cases i with
  | zero => cases hx; exact absurd rfl hn
  | succ i => exact h.2 i x hx hn
/-- an int out of a long -/
def wI (x : Int) : Int := (Int32.ofInt x).toInt
theorem wI_eq {x : Int} (h : rI x) : wI x = x := ti h
