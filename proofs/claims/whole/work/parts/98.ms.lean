/-! The simple machines -/
def eMp : Ma := (2, fun _ _ => 1, fun i => decide (i = 0))
def aNy : Ma := (3, fun s _ => if s = 0 then 1 else 2, fun i => decide (i = 1))
def nOn : Ma := (1, fun _ _ => 0, fun _ => false)
def lTr (c : Int) : Ma := (3, fun s e => if s = 0 ∧ e = c then (if c = 0 then 1 else 2) else (if c = 0 then 2 else 1), fun i => decide (i = if c = 0 then 1 else 2))
def sMp (w : Int) : Ma := if w = -1 then eMp else if w = 10 then aNy else if w = 11 then nOn else lTr w
theorem eMp_ok : okM eMp := ⟨by decide, by decide, fun s c _ _ _ => ⟨by show (0 : Int) ≤ 1; omega, by show (1 : Int) < 2; omega⟩, fun i h => by
  have h : decide (i = 0) = true := h
  rw [decide_eq_true_eq] at h
  show i < 2
  omega⟩
theorem aNy_ok : okM aNy := ⟨by decide, by decide, fun s c _ _ _ => by
  show 0 ≤ (if s = 0 then (1 : Int) else 2) ∧ (if s = 0 then (1 : Int) else 2) < 3
  split <;> omega, fun i h => by
  have h : decide (i = 1) = true := h
  rw [decide_eq_true_eq] at h
  show i < 3
  omega⟩
theorem nOn_ok : okM nOn := ⟨by decide, by decide, fun s c _ _ _ => ⟨by show (0 : Int) ≤ 0; omega, by show (0 : Int) < 1; omega⟩, fun i h => by cases h⟩
theorem lTr_ok (c : Int) : okM (lTr c) := ⟨by show 1 ≤ 3; omega, by show 3 ≤ 40; omega, fun s e _ _ _ => by
  show 0 ≤ (if s = 0 ∧ e = c then (if c = 0 then (1 : Int) else 2) else (if c = 0 then 2 else 1)) ∧ (if s = 0 ∧ e = c then (if c = 0 then (1 : Int) else 2) else (if c = 0 then 2 else 1)) < 3
  split <;> split <;> omega, fun i h => by
  have h : decide (i = if c = 0 then 1 else 2) = true := h
  rw [decide_eq_true_eq] at h
  show i < 3
  split at h <;> omega⟩
theorem sMp_ok (w : Int) : okM (sMp w) := by
  unfold sMp
  split
  · exact eMp_ok
  · split
    · exact aNy_ok
    · split
      · exact nOn_ok
      · exact lTr_ok w
/-- one side: a row of steps -/
theorem q_9 {d a : Nat} {u : uS} {s t : Int} (hO : isO a 5) (s0 : 0 ≤ s) (s1 : s < 40) : cV (d + 2) 9 [.ref a, iV s, iV t] u (fun u' => u'.2 = u.2 ∧ (∀ b, b ≠ a + 1 → u'.1 b = u.1 b) ∧ (∀ c : Int, 0 ≤ c → c < 10 → u'.1 (a + 1) (s * 10 + c) = t) ∧ ∀ j : Int, ¬ (s * 10 ≤ j ∧ j < s * 10 + 10) → u'.1 (a + 1) j = u.1 (a + 1) j) := by
  have loop : ∀ (m k : Nat) (v : uS), k + m = 10 → v.2 = u.2 → (∀ b, b ≠ a + 1 → v.1 b = u.1 b) → (∀ c : Int, 0 ≤ c → c < k → v.1 (a + 1) (s * 10 + c) = t) → (∀ j : Int, ¬ (s * 10 ≤ j ∧ j < s * 10 + 10) → v.1 (a + 1) j = u.1 (a + 1) j) → K_9 (d + 1) 2 [.ref a, iV s, iV t, iV (k : Nat)] [] v (fun u' => u'.2 = u.2 ∧ (∀ b, b ≠ a + 1 → u'.1 b = u.1 b) ∧ (∀ c : Int, 0 ≤ c → c < 10 → u'.1 (a + 1) (s * 10 + c) = t) ∧ ∀ j : Int, ¬ (s * 10 ≤ j ∧ j < s * 10 + 10) → u'.1 (a + 1) j = u.1 (a + 1) j) := by
    intro m
    induction m with
    | zero =>
      intro k v hk f1 f2 f3 f4
      refine k_9_2 hO ⟨⟨by omega, by omega⟩, ?_⟩
      rw [if_neg (by omega)]
      exact ⟨f1, f2, fun c c0 c1 => f3 c c0 (by omega), f4⟩
    | succ m ih =>
      intro k v hk f1 f2 f3 f4
      refine k_9_2 hO ⟨⟨by omega, by omega⟩, ?_⟩
      rw [if_pos (by omega)]
      refine ⟨by omega, by omega, fun u5 e5 => ih (k + 1) u5 (by omega) (by rw [e5, wr_2]; exact f1) (fun b hb => by rw [e5, wr_ne hb]; exact f2 b hb) (fun c c0 c1 => ?_) (fun j hj => ?_)⟩
      · rw [e5, wr_uf]
        by_cases e : c = k
        · rw [e, uf_eq]
        · rw [uf_ne (by omega)]; exact f3 c c0 (by omega)
      · rw [e5, wr_uf, uf_ne (by omega)]; exact f4 j hj
  exact e_9 hO (loop 10 0 u (by omega) rfl (fun _ _ => rfl) (fun c c0 c1 => by omega) (fun _ _ => rfl))
def cF (a : Nat) (u u' : uS) : Prop := u'.2 = u.2 ∧ ∀ b, b ≠ a → b ≠ a + 1 → u'.1 b = u.1 b
theorem q_94 {d a : Nat} {u : uS} (hO : isO a 5) : cV (d + 3) 94 [.ref a] u (fun u' => cF a u u' ∧ cMa u' a aNy) := by
  refine e_94 hO (fun u1 e1 u3 e3 => ?_)
  have r3 : u3.2 = u.2 := by rw [e3, wr_2, e1, wr_2]
  have n3 : ∀ b, b ≠ a → u3.1 b = u.1 b := fun b hb => by rw [e3, wr_ne hb, e1, wr_ne hb]
  refine (q_9 (d := d) hO (by omega) (by omega)).mono (Nat.le_refl _) (fun u5 h5 => ?_)
  refine (q_9 (d := d) hO (by omega) (by omega)).mono (Nat.le_refl _) (fun u6 h6 => ?_)
  refine (q_9 (d := d) hO (by omega) (by omega)).mono (Nat.le_refl _) (fun u7 h7 => ?_)
  have hL : u7.1 a = u3.1 a := by rw [h7.2.1 a (by omega), h6.2.1 a (by omega), h5.2.1 a (by omega)]
  refine ⟨⟨by rw [h7.1, h6.1, h5.1, r3], fun b hb hb' => by rw [h7.2.1 b hb', h6.2.1 b hb', h5.2.1 b hb', n3 b hb]⟩, ?_, fun s c hs c0 c1 => ?_, ?_, fun i => ?_⟩
  · rw [hL, e3, wr_1, if_neg (by omega), e1, wr_self]; rfl
  · have hs1 : 0 ≤ s := hs.1
    have hs2 : s < 3 := hs.2
    show _ = if s = 0 then (1 : Int) else 2
    by_cases s0 : s = 0
    · rw [if_pos s0, s0, h7.2.2.2 _ (by omega), h6.2.2.2 _ (by omega)]
      exact h5.2.2.1 c c0 c1
    · rw [if_neg s0]
      by_cases s1 : s = 1
      · rw [s1, h7.2.2.2 _ (by omega)]
        exact h6.2.2.1 c c0 c1
      · rw [show s = 2 by omega]
        exact h7.2.2.1 c c0 c1
  · rw [hL, e3, wr_self]; exact ⟨by omega, by omega⟩
  · rw [hL, e3, wr_self]
    exact bt_shl1 (y := 1) (by omega) i
theorem q_95 {d a : Nat} {u : uS} (hO : isO a 5) : cV (d + 3) 95 [.ref a] u (fun u' => cF a u u' ∧ cMa u' a nOn) := by
  refine e_95 hO (fun u1 e1 u3 e3 => ?_)
  have r3 : u3.2 = u.2 := by rw [e3, wr_2, e1, wr_2]
  have n3 : ∀ b, b ≠ a → u3.1 b = u.1 b := fun b hb => by rw [e3, wr_ne hb, e1, wr_ne hb]
  refine (q_9 (d := d) hO (by omega) (by omega)).mono (Nat.le_refl _) (fun u5 h5 => ?_)
  have hL : u5.1 a = u3.1 a := h5.2.1 a (by omega)
  refine ⟨⟨by rw [h5.1, r3], fun b hb hb' => by rw [h5.2.1 b hb', n3 b hb]⟩, ?_, fun s c hs c0 c1 => ?_, ?_, fun i => ?_⟩
  · rw [hL, e3, wr_1, if_neg (by omega), e1, wr_self]; rfl
  · have hs1 : 0 ≤ s := hs.1
    have hs2 : s < 1 := hs.2
    rw [show s = 0 by omega]
    exact h5.2.2.1 c c0 c1
  · rw [hL, e3, wr_self]; exact ⟨by omega, by omega⟩
  · rw [hL, e3, wr_self, bt_0]; rfl
theorem q_96 {d a : Nat} {u : uS} {l : Int} (hO : isO a 5) (l0 : 0 ≤ l) (l1 : l < 10) : cV (d + 4) 96 [.ref a, iV l] u (fun u' => cF a u u' ∧ cMa u' a (lTr l)) := by
  have key : ∀ (g e : Int) (u3 u5 : uS), (1 ≤ g ∧ g ≤ 2) → e = 3 - g → g = (if l = 0 then 1 else 2) → u3 = wr u a 0 3 → u5 = wr u3 a 1 (lshl 1 g) → cV (d + 3) 9 [.ref a, iV 0, iV e] u5 (fun u7 => cV (d + 3) 9 [.ref a, iV 1, iV e] u7 (fun u8 => cV (d + 3) 9 [.ref a, iV 2, iV e] u8 (fun u9 => (0 ≤ (0 * 10) + l) ∧ (((0 * 10) + l < 400) ∧ (∀ u12 : uS, u12 = wr u9 (a + 1) ((0 * 10) + l) g → (cF a u u12 ∧ cMa u12 a (lTr l))))))) := by
    intro g e u1 u3 hg he hgl e1 e3
    have r3 : u3.2 = u.2 := by rw [e3, wr_2, e1, wr_2]
    have n3 : ∀ b, b ≠ a → u3.1 b = u.1 b := fun b hb => by rw [e3, wr_ne hb, e1, wr_ne hb]
    refine (q_9 (d := d + 1) hO (by omega) (by omega)).mono (Nat.le_refl _) (fun u5 h5 => ?_)
    refine (q_9 (d := d + 1) hO (by omega) (by omega)).mono (Nat.le_refl _) (fun u6 h6 => ?_)
    refine (q_9 (d := d + 1) hO (by omega) (by omega)).mono (Nat.le_refl _) (fun u7 h7 => ?_)
    refine ⟨by omega, by omega, fun u12 e12 => ?_⟩
    have hL : u12.1 a = u3.1 a := by rw [e12, wr_ne (by omega), h7.2.1 a (by omega), h6.2.1 a (by omega), h5.2.1 a (by omega)]
    refine ⟨⟨by rw [e12, wr_2, h7.1, h6.1, h5.1, r3], fun b hb hb' => by rw [e12, wr_ne hb', h7.2.1 b hb', h6.2.1 b hb', h5.2.1 b hb', n3 b hb]⟩, ?_, fun s c hs c0 c1 => ?_, ?_, fun i => ?_⟩
    · rw [hL, e3, wr_1, if_neg (by omega), e1, wr_self]; rfl
    · have hs1 : 0 ≤ s := hs.1
      have hs2 : s < 3 := hs.2
      have ed : e = (if l = 0 then 2 else 1) := by
        rw [he, hgl]
        split <;> rfl
      show _ = if s = 0 ∧ c = l then (if l = 0 then (1 : Int) else 2) else (if l = 0 then 2 else 1)
      rw [← hgl, ← ed, e12, wr_uf]
      by_cases c2 : s = 0 ∧ c = l
      · rw [if_pos c2, show s * 10 + c = 0 * 10 + l by omega, uf_eq]
      · rw [if_neg c2, uf_ne (by omega)]
        by_cases s0 : s = 0
        · rw [s0, h7.2.2.2 _ (by omega), h6.2.2.2 _ (by omega)]
          exact h5.2.2.1 c c0 c1
        · by_cases s1 : s = 1
          · rw [s1, h7.2.2.2 _ (by omega)]
            exact h6.2.2.1 c c0 c1
          · rw [show s = 2 by omega]
            exact h7.2.2.1 c c0 c1
    · rw [hL, e3, wr_self]; exact rl_lshl _ _
    · rw [hL, e3, wr_self, bt_bit (by omega) (by omega)]
      show decide (i = g.toNat) = decide (i = if l = 0 then 1 else 2)
      by_cases cl : l = 0
      · rw [if_pos cl] at hgl ⊢
        rw [hgl]; rfl
      · rw [if_neg cl] at hgl ⊢
        rw [hgl]; rfl
  refine e_96 hO ⟨⟨by omega, by omega⟩, ?_⟩
  by_cases c : l = 0
  · rw [if_pos c]
    exact fun u3 e3 u5 e5 => key 1 (3 - 1) u3 u5 (by omega) rfl (by rw [if_pos c]) e3 e5
  · rw [if_neg c]
    exact fun u3 e3 u5 e5 => key 2 (3 - 2) u3 u5 (by omega) rfl (by rw [if_neg c]) e3 e5
