/-! Numbers of trees over stretches -/
noncomputable def svt (g : Gm) (pi : Int → Int) (tt : Nat → Int → Int → Int) (y p : Int) (m : Nat) : Int := if m = 0 then em g y else tt m y (pi p)
/-- the first d symbols over the first t places behind i -/
noncomputable def ff (g : Gm) (lt : Int → Int → Prop) (pi : Int → Int) (tt : Nat → Int → Int → Int) (r i : Int) : Nat → Nat → Int
  | 0 => fun t => if t = 0 then 1 else 0
  | d + 1 => fun t => if gy g r d < 100 then (if pd (0 < t ∧ lt (i + t) (gy g r d)) = true then ff g lt pi tt r i d (t - 1) else 0) else su (fun p => sT (ff g lt pi tt r i d p) (svt g pi tt (gy g r d - 100) (i + p) (t - p))) (t + 1)
/-- the same, but no variable has all N places -/
noncomputable def fx (g : Gm) (lt : Int → Int → Prop) (pi : Int → Int) (tt : Nat → Int → Int → Int) (r i : Int) (N : Nat) : Nat → Nat → Int
  | 0 => fun t => if t = 0 then 1 else 0
  | d + 1 => fun t => if gy g r d < 100 then (if pd (0 < t ∧ lt (i + t) (gy g r d)) = true then fx g lt pi tt r i N d (t - 1) else 0) else su (fun p => if p = 0 ∧ t = N then 0 else sT (fx g lt pi tt r i N d p) (svt g pi tt (gy g r d - 100) (i + p) (t - p))) (t + 1)
noncomputable def bs (g : Gm) (lt : Int → Int → Prop) (pi : Int → Int) (tt : Nat → Int → Int → Int) (N : Nat) (i x : Int) : Int := su (fun r => if pd (gh g r = x) = true then fx g lt pi tt r i N (gl g r).toNat N else 0) (gr g)
noncomputable def tbl (g : Gm) (lt : Int → Int → Prop) (pi : Int → Int) : Nat → Nat → Int → Int → Int
  | 0 => fun _ _ _ => 0
  | N + 1 => fun m x i => if m = N then so g (bs g lt pi (tbl g lt pi N) N i) x else tbl g lt pi N m x i
noncomputable def tT (g : Gm) (lt : Int → Int → Prop) (pi : Int → Int) (m : Nat) (x i : Int) : Int := so g (bs g lt pi (tbl g lt pi m) m i) x
theorem tbl_T {g : Gm} {lt : Int → Int → Prop} {pi : Int → Int} : ∀ (N m : Nat) (x i : Int), m < N → tbl g lt pi N m x i = tT g lt pi m x i
  | 0, m, _, _, h => absurd h (Nat.not_lt_zero _)
  | N + 1, m, x, i, h => by
    show (if m = N then so g (bs g lt pi (tbl g lt pi N) N i) x else tbl g lt pi N m x i) = _
    by_cases e : m = N
    · rw [if_pos e, e]
      rfl
    · rw [if_neg e]
      exact tbl_T N m x i (by omega)
theorem svt_congr {g : Gm} {pi : Int → Int} {tt tt' : Nat → Int → Int → Int} {N m : Nat} {y p : Int} (h : ∀ m, m < N → ∀ y i, tt m y i = tt' m y i) (hm : m < N) : svt g pi tt y p m = svt g pi tt' y p m := by
  unfold svt
  split
  · rfl
  · exact h m hm _ _
theorem fx_congr {g : Gm} {lt : Int → Int → Prop} {pi : Int → Int} {tt tt' : Nat → Int → Int → Int} {r i : Int} {N : Nat} (h : ∀ m, m < N → ∀ y i, tt m y i = tt' m y i) : ∀ (d t : Nat), t ≤ N → fx g lt pi tt r i N d t = fx g lt pi tt' r i N d t
  | 0, _, _ => rfl
  | d + 1, t, ht => by
    show (if gy g r d < 100 then (if pd (0 < t ∧ lt (i + t) (gy g r d)) = true then fx g lt pi tt r i N d (t - 1) else 0) else su (fun p => if p = 0 ∧ t = N then 0 else sT (fx g lt pi tt r i N d p) (svt g pi tt (gy g r d - 100) (i + p) (t - p))) (t + 1)) = (if gy g r d < 100 then (if pd (0 < t ∧ lt (i + t) (gy g r d)) = true then fx g lt pi tt' r i N d (t - 1) else 0) else su (fun p => if p = 0 ∧ t = N then 0 else sT (fx g lt pi tt' r i N d p) (svt g pi tt' (gy g r d - 100) (i + p) (t - p))) (t + 1))
    rw [fx_congr h d (t - 1) (by omega)]
    congr 1
    refine su_congr _ (fun p hp => ?_)
    by_cases e : p = 0 ∧ t = N
    · rw [if_pos e, if_pos e]
    · rw [if_neg e, if_neg e, fx_congr h d p (by omega)]
      by_cases e2 : t - p < N
      · rw [svt_congr h e2]
      · omega
theorem tT_eq {g : Gm} {lt : Int → Int → Prop} {pi : Int → Int} (N : Nat) (x i : Int) : tT g lt pi N x i = so g (bs g lt pi (tT g lt pi) N i) x := by
  unfold tT
  congr 1
  funext x
  refine su_congr _ (fun r hr => ?_)
  rw [fx_congr (fun m hm y i => tbl_T N m y i hm) _ _ (Nat.le_refl _)]
  rfl
theorem svt_cv {g : Gm} {pi : Int → Int} {tt : Nat → Int → Int → Int} (ht : ∀ m y i, cv (tt m y i)) (y p : Int) (m : Nat) : cv (svt g pi tt y p m) := by
  unfold svt
  split
  · exact em_cv g y
  · exact ht _ _ _
theorem fx_cv {g : Gm} {lt : Int → Int → Prop} {pi : Int → Int} {tt : Nat → Int → Int → Int} {r i : Int} {N : Nat} (ht : ∀ m y i, cv (tt m y i)) : ∀ (d t : Nat), cv (fx g lt pi tt r i N d t)
  | 0, t => by
    show cv (if t = 0 then 1 else 0)
    split
    · exact cv_1
    · exact cv_0
  | d + 1, t => by
    show cv (if gy g r d < 100 then (if pd (0 < t ∧ lt (i + t) (gy g r d)) = true then fx g lt pi tt r i N d (t - 1) else 0) else su (fun p => if p = 0 ∧ t = N then 0 else sT (fx g lt pi tt r i N d p) (svt g pi tt (gy g r d - 100) (i + p) (t - p))) (t + 1))
    split
    · split
      · exact fx_cv ht d _
      · exact cv_0
    · refine su_cv _ (fun p _ => ?_)
      show cv (if _ then _ else _)
      split
      · exact cv_0
      · exact cv_T (fx_cv ht d p) (svt_cv ht _ _ _)
theorem ff_cv {g : Gm} {lt : Int → Int → Prop} {pi : Int → Int} {tt : Nat → Int → Int → Int} {r i : Int} (ht : ∀ m y i, cv (tt m y i)) : ∀ (d t : Nat), cv (ff g lt pi tt r i d t)
  | 0, t => by
    show cv (if t = 0 then 1 else 0)
    split
    · exact cv_1
    · exact cv_0
  | d + 1, t => by
    show cv (if gy g r d < 100 then (if pd (0 < t ∧ lt (i + t) (gy g r d)) = true then ff g lt pi tt r i d (t - 1) else 0) else su (fun p => sT (ff g lt pi tt r i d p) (svt g pi tt (gy g r d - 100) (i + p) (t - p))) (t + 1))
    split
    · split
      · exact ff_cv ht d _
      · exact cv_0
    · exact su_cv _ (fun p _ => cv_T (ff_cv ht d p) (svt_cv ht _ _ _))
theorem bs_cv {g : Gm} {lt : Int → Int → Prop} {pi : Int → Int} {tt : Nat → Int → Int → Int} {N : Nat} {i : Int} (ht : ∀ m y i, cv (tt m y i)) (x : Int) : cv (bs g lt pi tt N i x) := su_cv _ (fun r _ => by
  show cv (if _ then _ else _)
  split
  · exact fx_cv ht _ _
  · exact cv_0)
theorem tbl_cv {g : Gm} {lt : Int → Int → Prop} {pi : Int → Int} : ∀ (N m : Nat) (x i : Int), cv (tbl g lt pi N m x i)
  | 0, _, _, _ => cv_0
  | N + 1, m, x, i => by
    show cv (if m = N then so g (bs g lt pi (tbl g lt pi N) N i) x else tbl g lt pi N m x i)
    split
    · exact so_cv g _ (fun x => bs_cv (tbl_cv N) x) x
    · exact tbl_cv N m x i
theorem tT_cv {g : Gm} {lt : Int → Int → Prop} {pi : Int → Int} (m : Nat) (x i : Int) : cv (tT g lt pi m x i) := so_cv g _ (fun x => bs_cv (tbl_cv m) x) x
theorem fx_ff {g : Gm} {lt : Int → Int → Prop} {pi : Int → Int} {tt : Nat → Int → Int → Int} {r i : Int} {N : Nat} : ∀ (d t : Nat), t < N → fx g lt pi tt r i N d t = ff g lt pi tt r i d t
  | 0, _, _ => rfl
  | d + 1, t, ht => by
    show (if gy g r d < 100 then (if pd (0 < t ∧ lt (i + t) (gy g r d)) = true then fx g lt pi tt r i N d (t - 1) else 0) else su (fun p => if p = 0 ∧ t = N then 0 else sT (fx g lt pi tt r i N d p) (svt g pi tt (gy g r d - 100) (i + p) (t - p))) (t + 1)) = (if gy g r d < 100 then (if pd (0 < t ∧ lt (i + t) (gy g r d)) = true then ff g lt pi tt r i d (t - 1) else 0) else su (fun p => sT (ff g lt pi tt r i d p) (svt g pi tt (gy g r d - 100) (i + p) (t - p))) (t + 1))
    rw [fx_ff d (t - 1) (by omega)]
    congr 1
    refine su_congr _ (fun p hp => ?_)
    rw [if_neg (by omega), fx_ff d p (by omega)]
theorem su_head {f : Nat → Int} (hf : ∀ i, cv (f i)) : ∀ k : Nat, su f (k + 1) = sP (f 0) (su (fun i => f (i + 1)) k)
  | 0 => by
    show sP (su f 0) (f 0) = sP (f 0) 0
    exact sP_comm _ _
  | k + 1 => by
    show sP (su f (k + 1)) (f (k + 1)) = sP (f 0) (sP (su (fun i => f (i + 1)) k) (f (k + 1)))
    rw [su_head hf k, sP_assoc (hf 0) (su_cv k (fun i _ => hf _)) (hf _)]
theorem ff_0 {g : Gm} {lt : Int → Int → Prop} {pi : Int → Int} {tt : Nat → Int → Int → Int} {r i : Int} (ht : ∀ m y i, cv (tt m y i)) : ∀ d : Nat, ff g lt pi tt r i d 0 = pr (fun h => eS g (gy g r h)) d
  | 0 => rfl
  | d + 1 => by
    show (if gy g r d < 100 then (if pd (0 < 0 ∧ lt (i + (0 : Nat)) (gy g r d)) = true then ff g lt pi tt r i d (0 - 1) else 0) else su (fun p => sT (ff g lt pi tt r i d p) (svt g pi tt (gy g r d - 100) (i + p) (0 - p))) (0 + 1)) = sT (pr (fun h => eS g (gy g r h)) d) (eS g (gy g r d))
    unfold eS
    by_cases h : gy g r d < 100
    · rw [if_pos h, if_pos h, if_neg (fun h => by have := (pd_t.mp h).1; omega), sT_0]
    · rw [if_neg h, if_neg h]
      show sP 0 (sT (ff g lt pi tt r i d 0) (svt g pi tt (gy g r d - 100) (i + (0 : Nat)) (0 - 0))) = _
      rw [sP_0l (cv_T (ff_cv ht d 0) (svt_cv ht _ _ _)), ff_0 ht d]
      rfl
/-- the last of the first symbols over neither nothing nor all of N places -/
noncomputable def md (g : Gm) (lt : Int → Int → Prop) (pi : Int → Int) (tt : Nat → Int → Int → Int) (r i : Int) (d N : Nat) : Int := if gy g r d < 100 then (if pd (lt (i + N) (gy g r d)) = true then ff g lt pi tt r i d (N - 1) else 0) else su (fun p => sT (ff g lt pi tt r i d (p + 1)) (tt (N - (p + 1)) (gy g r d - 100) (pi (i + (p + 1 : Nat))))) (N - 1)
theorem md_cv {g : Gm} {lt : Int → Int → Prop} {pi : Int → Int} {tt : Nat → Int → Int → Int} {r i : Int} (ht : ∀ m y i, cv (tt m y i)) (d N : Nat) : cv (md g lt pi tt r i d N) := by
  unfold md
  split
  · split
    · exact ff_cv ht _ _
    · exact cv_0
  · exact su_cv _ (fun p _ => cv_T (ff_cv ht _ _) (ht _ _ _))
theorem fx_N {g : Gm} {lt : Int → Int → Prop} {pi : Int → Int} {tt : Nat → Int → Int → Int} {r i : Int} {N d : Nat} (ht : ∀ m y i, cv (tt m y i)) (hN : 0 < N) : fx g lt pi tt r i N (d + 1) N = sP (md g lt pi tt r i d N) (sT (fx g lt pi tt r i N d N) (eS g (gy g r d))) := by
  show (if gy g r d < 100 then (if pd (0 < N ∧ lt (i + N) (gy g r d)) = true then fx g lt pi tt r i N d (N - 1) else 0) else su (fun p => if p = 0 ∧ N = N then 0 else sT (fx g lt pi tt r i N d p) (svt g pi tt (gy g r d - 100) (i + p) (N - p))) (N + 1)) = _
  unfold md eS
  by_cases h : gy g r d < 100
  · rw [if_pos h, if_pos h, if_pos h, sT_0]
    by_cases hl : lt (i + N) (gy g r d)
    · rw [if_pos (pd_t.mpr ⟨hN, hl⟩), if_pos (pd_t.mpr hl), fx_ff d (N - 1) (by omega), sP_0 (ff_cv ht _ _)]
    · rw [if_neg (fun h => hl (pd_t.mp h).2), if_neg (fun h => hl (pd_t.mp h)), sP_0 cv_0]
  · rw [if_neg h, if_neg h, if_neg h]
    obtain ⟨M, hM⟩ : ∃ M, N = M + 1 := ⟨N - 1, by omega⟩
    generalize hf : (fun p : Nat => if p = 0 ∧ N = N then 0 else sT (fx g lt pi tt r i N d p) (svt g pi tt (gy g r d - 100) (i + p) (N - p))) = f
    have fcv : ∀ p, cv (f p) := fun p => by
      rw [← hf]
      show cv (if _ then _ else _)
      split
      · exact cv_0
      · exact cv_T (fx_cv ht _ _) (svt_cv ht _ _ _)
    show sP (su f N) (f N) = _
    have e1 : f N = sT (fx g lt pi tt r i N d N) (em g (gy g r d - 100)) := by
      rw [← hf]
      show (if N = 0 ∧ N = N then 0 else sT (fx g lt pi tt r i N d N) (svt g pi tt (gy g r d - 100) (i + N) (N - N))) = _
      rw [if_neg (by omega)]
      unfold svt
      rw [if_pos (by omega)]
    have e2 : su f N = su (fun p => sT (ff g lt pi tt r i d (p + 1)) (tt (N - (p + 1)) (gy g r d - 100) (pi (i + (p + 1 : Nat))))) (N - 1) := by
      have eN : N - 1 = M := by omega
      rw [eN, show su f N = su f (M + 1) by rw [hM], su_head fcv M]
      have f0 : f 0 = 0 := by
        rw [← hf]
        exact if_pos ⟨rfl, rfl⟩
      rw [f0, sP_0l (su_cv M (fun p _ => fcv _))]
      refine su_congr M (fun p hp => ?_)
      rw [← hf]
      show (if p + 1 = 0 ∧ N = N then 0 else sT (fx g lt pi tt r i N d (p + 1)) (svt g pi tt (gy g r d - 100) (i + (p + 1 : Nat)) (N - (p + 1)))) = _
      rw [if_neg (by omega), fx_ff d (p + 1) (by omega)]
      unfold svt
      rw [if_neg (by omega)]
    rw [e1, e2]
theorem ff_N {g : Gm} {lt : Int → Int → Prop} {pi : Int → Int} {tt : Nat → Int → Int → Int} {r i : Int} {N d : Nat} (ht : ∀ m y i, cv (tt m y i)) (hN : 0 < N) : ff g lt pi tt r i (d + 1) N = if gy g r d < 100 then md g lt pi tt r i d N else sP (sP (md g lt pi tt r i d N) (sT (ff g lt pi tt r i d 0) (tt N (gy g r d - 100) (pi i)))) (sT (ff g lt pi tt r i d N) (em g (gy g r d - 100))) := by
  show (if gy g r d < 100 then (if pd (0 < N ∧ lt (i + N) (gy g r d)) = true then ff g lt pi tt r i d (N - 1) else 0) else su (fun p => sT (ff g lt pi tt r i d p) (svt g pi tt (gy g r d - 100) (i + p) (N - p))) (N + 1)) = _
  by_cases h : gy g r d < 100
  · rw [if_pos h, if_pos h]
    unfold md
    rw [if_pos h]
    by_cases hl : lt (i + N) (gy g r d)
    · rw [if_pos (pd_t.mpr ⟨hN, hl⟩), if_pos (pd_t.mpr hl)]
    · rw [if_neg (fun h => hl (pd_t.mp h).2), if_neg (fun h => hl (pd_t.mp h))]
  · rw [if_neg h, if_neg h]
    obtain ⟨M, hM⟩ : ∃ M, N = M + 1 := ⟨N - 1, by omega⟩
    generalize hf : (fun p : Nat => sT (ff g lt pi tt r i d p) (svt g pi tt (gy g r d - 100) (i + p) (N - p))) = f
    have fcv : ∀ p, cv (f p) := fun p => by
      rw [← hf]
      exact cv_T (ff_cv ht _ _) (svt_cv ht _ _ _)
    show sP (su f N) (f N) = _
    have e1 : f N = sT (ff g lt pi tt r i d N) (em g (gy g r d - 100)) := by
      rw [← hf]
      show sT (ff g lt pi tt r i d N) (svt g pi tt (gy g r d - 100) (i + N) (N - N)) = _
      unfold svt
      rw [if_pos (by omega)]
    have e2 : su f N = sP (md g lt pi tt r i d N) (sT (ff g lt pi tt r i d 0) (tt N (gy g r d - 100) (pi i))) := by
      have eN : N - 1 = M := by omega
      rw [show su f N = su f (M + 1) by rw [hM], su_head fcv M, sP_comm]
      have f0 : f 0 = sT (ff g lt pi tt r i d 0) (tt N (gy g r d - 100) (pi i)) := by
        rw [← hf]
        show sT (ff g lt pi tt r i d 0) (svt g pi tt (gy g r d - 100) (i + (0 : Nat)) (N - 0)) = _
        unfold svt
        rw [if_neg (by omega), show i + ((0 : Nat) : Int) = i by omega, show N - 0 = N by omega]
      rw [f0]
      congr 1
      unfold md
      rw [if_neg h, eN]
      refine su_congr M (fun p hp => ?_)
      rw [← hf]
      show sT (ff g lt pi tt r i d (p + 1)) (svt g pi tt (gy g r d - 100) (i + (p + 1 : Nat)) (N - (p + 1))) = _
      unfold svt
      rw [if_neg (by omega)]
    rw [e1, e2]
