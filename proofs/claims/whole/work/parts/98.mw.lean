/-! Building out of a text: the abstract state; one side's ends of items, rows and sums -/
abbrev bSt := Nat × (Nat → Nat → Option Ma) × (Nat → Bool)
def oU (o : Nat → Nat → Option Ma) (a l : Nat) (v : Option Ma) : Nat → Nat → Option Ma := fun a' l' => if a' = a ∧ l' = l then v else o a' l'
def tU (t : Nat → Bool) (l : Nat) (v : Bool) : Nat → Bool := fun l' => if l' = l then v else t l'
theorem oU_eq (o : Nat → Nat → Option Ma) (a l : Nat) (v : Option Ma) : oU o a l v a l = v := if_pos ⟨rfl, rfl⟩
theorem oU_ne {o : Nat → Nat → Option Ma} {a l a' l' : Nat} {v : Option Ma} (h : ¬ (a' = a ∧ l' = l)) : oU o a l v a' l' = o a' l' := if_neg h
noncomputable def mkR (k : Int) (A B : Ma) : Option Ma := by
  classical
  exact if h : ∃ m, MKm 1 k A B m then some (Classical.choose h) else none
theorem mkR_some {k : Int} {A B m : Ma} (h : MKm 1 k A B m) : mkR k A B = some m := by
  unfold mkR
  have hh : ∃ m, MKm 1 k A B m := ⟨m, h⟩
  rw [dif_pos hh, MK_uniq (Classical.choose_spec hh) h]
theorem mkR_none {k : Int} {A B : Ma} (h : MKg 1 k A B) : mkR k A B = none := by
  unfold mkR
  rw [dif_neg (fun ⟨m, hm⟩ => MK_no hm h)]
/-- joined to what is there -/
noncomputable def mrg (k : Int) (o : Option Ma) (m : Ma) : Option Ma := match o with
  | none => some m
  | some r => mkR k r m
noncomputable def bdI (S : bSt) : Option bSt := match S.2.1 3 S.1 with
  | none => some S
  | some m => (mrg 2 (S.2.1 2 S.1) (if S.2.2 S.1 = true then cMp m else m)).map (fun y => (S.1, oU (oU S.2.1 3 S.1 none) 2 S.1 (some y), tU S.2.2 S.1 false))
noncomputable def bdR (S : bSt) : Option bSt := (mrg 0 (S.2.1 1 S.1) ((S.2.1 2 S.1).getD eMp)).map (fun y => (S.1, oU (oU S.2.1 2 S.1 none) 1 S.1 (some y), S.2.2))
noncomputable def bdE (S : bSt) : Option bSt := match S.2.1 1 S.1 with
  | none => none
  | some s => (mrg 1 (S.2.1 0 S.1) s).map (fun y => (S.1, oU (oU S.2.1 1 S.1 none) 0 S.1 (some y), S.2.2))
/-- one side's state -/
def CB (u : uS) (S : bSt) : Prop := u.1 63 0 = (S.1 : Nat) ∧ S.1 ≤ 15 ∧ (∀ a l : Nat, a < 3 → l ≤ S.1 → u.1 (85 + a) l = b2 (S.2.1 a l).isSome ∧ ∀ m : Ma, S.2.1 a l = some m → okM m ∧ cMa u (89 + 2 * a + 6 * l) m) ∧ (∀ l : Nat, l ≤ S.1 → u.1 88 l = b2 (S.2.2 l)) ∧ u.1 63 13 = b2 (S.2.1 3 S.1).isSome ∧ ∀ m : Ma, S.2.1 3 S.1 = some m → okM m ∧ cMa u 80 m
/-- what lasts -/
def CE (u : uS) : Prop := cMa u 78 eMp ∧ ∀ s : Int, 0 ≤ s → s < 4096 → u.1 70 s = 0
def XF (u u' : uS) : Prop := (∀ b : Nat, b < 63 ∨ 184 < b → u'.1 b = u.1 b) ∧ ∀ b : Nat, b ≠ 64 → u'.2 b = u.2 b
theorem XF_refl (u : uS) : XF u u := ⟨fun _ _ => rfl, fun _ _ => rfl⟩
theorem XF_trans {u v w : uS} (h : XF u v) (h' : XF v w) : XF u w := ⟨fun b hb => (h'.1 b hb).trans (h.1 b hb), fun b hb => (h'.2 b hb).trans (h.2 b hb)⟩
theorem XF_wr {u v : uS} {a : Nat} {i y : Int} (ha : 63 ≤ a) (ha' : a ≤ 184) (h : XF u v) : XF u (wr v a i y) := ⟨fun b hb => by rw [wr_ne (by omega)]; exact h.1 b hb, fun b hb => by rw [wr_2]; exact h.2 b hb⟩
theorem XF_mk {u v : uS} {l4 : Nat} (h1 : 77 < l4) (h2 : l4 ≤ 183) (h : MKf l4 u v) : XF u v := ⟨fun b hb => h.1 b (by simp only [List.mem_cons, List.not_mem_nil, or_false, not_or]; omega), h.2.1⟩
theorem XF_cF {u v : uS} {a : Nat} (h1 : 63 ≤ a) (h2 : a ≤ 183) (h : cF a u v) : XF u v := ⟨fun b hb => h.2 b (by omega) (by omega), fun b _ => by rw [h.1]⟩
theorem CE_of {u v : uS} (h : CE u) (h70 : v.1 70 = u.1 70) (h78 : v.1 78 = u.1 78) (h79 : v.1 79 = u.1 79) : CE v := ⟨cMa_of h.1 (by rw [h78]) (by rw [h78]) h79, fun s s0 s1 => by rw [h70]; exact h.2 s s0 s1⟩
theorem CE_mk {u v : uS} {l4 : Nat} (h4 : l4 ≠ 78) (h4' : l4 + 1 ≠ 78) (h5 : l4 ≠ 79) (hu : CE u) (h : MKf l4 u v) : CE v := ⟨cMa_of hu.1 (by rw [h.1 78 (by simp only [List.mem_cons, List.not_mem_nil, or_false, not_or]; omega)]) (by rw [h.1 78 (by simp only [List.mem_cons, List.not_mem_nil, or_false, not_or]; omega)]) (h.1 79 (by simp only [List.mem_cons, List.not_mem_nil, or_false, not_or]; omega)), h.2.2⟩
theorem CB_upd {u u' : uS} {S : bSt} {a0 : Nat} {y : Ma} (h : CB u S) (ha : a0 < 3) (hy : okM y) (hm : cMa u' (89 + 2 * a0 + 6 * S.1) y) (h63 : u'.1 63 0 = u.1 63 0) (hmach : ∀ b : Nat, 89 ≤ b → b ≤ 184 → b ≠ 89 + 2 * a0 + 6 * S.1 → b ≠ 89 + 2 * a0 + 6 * S.1 + 1 → u'.1 b = u.1 b) (o' : Nat → Nat → Option Ma) (t' : Nat → Bool) (ho : ∀ a l : Nat, a < 3 → l ≤ S.1 → ¬ (a = a0 ∧ l = S.1) → (o' a l = S.2.1 a l ∧ u'.1 (85 + a) l = u.1 (85 + a) l) ∨ (o' a l = none ∧ u'.1 (85 + a) l = 0)) (ho0 : o' a0 S.1 = some y) (hf0 : u'.1 (85 + a0) S.1 = 1) (ht : ∀ l : Nat, l ≤ S.1 → u'.1 88 l = b2 (t' l)) (hi : (o' 3 S.1 = none ∧ u'.1 63 13 = 0) ∨ (o' 3 S.1 = S.2.1 3 S.1 ∧ u'.1 63 13 = u.1 63 13 ∧ u'.1 80 = u.1 80 ∧ u'.1 81 = u.1 81)) : CB u' (S.1, o', t') := by
  obtain ⟨c1, c2, c3, c4, c5, c6⟩ := h
  refine ⟨by rw [h63]; exact c1, c2, fun a l h1 h2 => ?_, ht, ?_, fun m hm' => ?_⟩
  · have h2 : l ≤ S.1 := h2
    by_cases e : a = a0 ∧ l = S.1
    · rw [e.1, e.2]
      refine ⟨?_, fun m hm' => ?_⟩
      · show u'.1 (85 + a0) S.1 = b2 (o' a0 S.1).isSome
        rw [hf0, ho0]
        rfl
      · have hm' : o' a0 S.1 = some m := hm'
        rw [ho0] at hm'
        injection hm' with hm'
        rw [← hm']
        exact ⟨hy, hm⟩
    · have old := c3 a l h1 h2
      rcases ho a l h1 h2 e with ⟨q1, q2⟩ | ⟨q1, q2⟩
      · refine ⟨?_, fun m hm' => ?_⟩
        · show u'.1 (85 + a) l = b2 (o' a l).isSome
          rw [q2, q1]
          exact old.1
        · have hm' : o' a l = some m := hm'
          rw [q1] at hm'
          obtain ⟨z1, z2⟩ := old.2 m hm'
          refine ⟨z1, cMa_of z2 ?_ ?_ ?_⟩
          · rw [hmach _ (by omega) (by omega) (by omega) (by omega)]
          · rw [hmach _ (by omega) (by omega) (by omega) (by omega)]
          · exact hmach _ (by omega) (by omega) (by omega) (by omega)
      · refine ⟨?_, fun m hm' => ?_⟩
        · show u'.1 (85 + a) l = b2 (o' a l).isSome
          rw [q2, q1]
          rfl
        · have hm' : o' a l = some m := hm'
          rw [q1] at hm'
          cases hm'
  · show u'.1 63 13 = b2 (o' 3 S.1).isSome
    rcases hi with ⟨q1, q2⟩ | ⟨q1, q2, -, -⟩
    · rw [q1, q2]; rfl
    · rw [q1, q2]; exact c5
  · have hm' : o' 3 S.1 = some m := hm'
    rcases hi with ⟨q1, q2⟩ | ⟨q1, q2, q3, q4⟩
    · rw [q1] at hm'
      cases hm'
    · rw [q1] at hm'
      obtain ⟨z1, z2⟩ := c6 m hm'
      exact ⟨z1, cMa_of z2 (by rw [q3]) (by rw [q3]) q4⟩
/-- the outcome of one side's step -/
def BO (x : Option bSt) (u : uS) (r : Int) (u' : uS) : Prop := XF u u' ∧ CE u' ∧ ((r = 1 ∧ ∃ S' : bSt, x = some S' ∧ CB u' S') ∨ (r = 0 ∧ x = none))
theorem isO_m (l : Nat) (a : Nat) (h : a < 3) (hl : l ≤ 15) : isO (89 + 2 * a + 6 * l) 5 := by
  have ha : a = 0 ∨ a = 1 ∨ a = 2 := by omega
  have hl' : l = 0 ∨ l = 1 ∨ l = 2 ∨ l = 3 ∨ l = 4 ∨ l = 5 ∨ l = 6 ∨ l = 7 ∨ l = 8 ∨ l = 9 ∨ l = 10 ∨ l = 11 ∨ l = 12 ∨ l = 13 ∨ l = 14 ∨ l = 15 := by omega
  rcases ha with e | e | e <;> subst e <;> rcases hl' with e | e | e | e | e | e | e | e | e | e | e | e | e | e | e | e <;> subst e <;> exact rfl
theorem b2t : b2 true = 1 := rfl
