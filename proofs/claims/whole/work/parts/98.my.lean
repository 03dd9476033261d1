/-! Building out of a text, sign by sign; one side's beginnings -/
def wOf (c : Int) : Int := if c = 46 then 10 else if c = 48 then 11 else c - 97
/-- what a sign that begins something does -/
def sgB (c : Int) (S : bSt) : bSt := if c = 33 then (S.1, S.2.1, tU S.2.2 S.1 (!S.2.2 S.1)) else if c = 40 then (S.1 + 1, fun a l => if l = S.1 + 1 then none else S.2.1 a l, tU S.2.2 (S.1 + 1) false) else (S.1, oU S.2.1 3 S.1 (some (sMp (wOf c))), S.2.2)
noncomputable def sgO (c : Int) (m : Ma) : Option Ma := if c = 42 then mkR 4 m m else if c = 43 then mkR 3 m m else mkR 0 m eMp
noncomputable def sgn (S : bSt) (c : Int) : Option bSt := if c = 42 ∨ c = 43 ∨ c = 63 then (match S.2.1 3 S.1 with
    | none => none
    | some m => (sgO c m).map (fun y => (S.1, oU S.2.1 3 S.1 (some y), S.2.2))) else if c = 124 then (bdI S).bind bdR else if c = 38 then ((bdI S).bind bdR).bind bdE else if c = 41 then (((bdI S).bind bdR).bind bdE).map (fun S => (S.1 - 1, oU S.2.1 3 (S.1 - 1) (S.2.1 0 S.1), S.2.2)) else (bdI S).map (sgB c)
noncomputable def bRun (f : Int → Int) : Nat → Option bSt
  | 0 => some (0, fun _ _ => none, fun _ => false)
  | j + 1 => (bRun f j).bind (fun S => if f j = 32 then some S else sgn S (f j))
noncomputable def bFin (f : Int → Int) (n : Nat) : Option bSt := (((bRun f n).bind bdI).bind bdR).bind bdE
theorem bdI_1 {S S' : bSt} (h : bdI S = some S') : S'.1 = S.1 ∧ S'.2.1 3 S'.1 = none := by
  cases hs : S.2.1 3 S.1 with
  | none =>
    rw [bdI_none hs] at h
    injection h with h
    rw [← h]
    exact ⟨rfl, hs⟩
  | some m =>
    rw [bdI_some hs] at h
    cases hm : mrg 2 (S.2.1 2 S.1) (if S.2.2 S.1 = true then cMp m else m) with
    | none => rw [hm] at h; cases h
    | some y =>
      rw [hm] at h
      have h : some ((S.1, oU (oU S.2.1 3 S.1 none) 2 S.1 (some y), tU S.2.2 S.1 false) : bSt) = some S' := h
      injection h with h
      rw [← h]
      refine ⟨rfl, ?_⟩
      show oU (oU S.2.1 3 S.1 none) 2 S.1 (some y) 3 S.1 = none
      rw [oU_ne (by omega), oU_eq]
theorem bdR_1 {S S' : bSt} (h : bdR S = some S') : S'.1 = S.1 ∧ S'.2.1 3 S'.1 = S.2.1 3 S.1 ∧ ∃ y, S'.2.1 1 S'.1 = some y := by
  unfold bdR at h
  cases hm : mrg 0 (S.2.1 1 S.1) ((S.2.1 2 S.1).getD eMp) with
  | none => rw [hm] at h; cases h
  | some y =>
    rw [hm] at h
    have h : some ((S.1, oU (oU S.2.1 2 S.1 none) 1 S.1 (some y), S.2.2) : bSt) = some S' := h
    injection h with h
    rw [← h]
    refine ⟨rfl, ?_, y, oU_eq _ _ _ _⟩
    show oU (oU S.2.1 2 S.1 none) 1 S.1 (some y) 3 S.1 = _
    rw [oU_ne (by omega), oU_ne (by omega)]
theorem bdE_1 {S S' : bSt} (h : bdE S = some S') : S'.1 = S.1 ∧ S'.2.1 3 S'.1 = S.2.1 3 S.1 ∧ ∃ y, S'.2.1 0 S'.1 = some y := by
  cases hs : S.2.1 1 S.1 with
  | none =>
    unfold bdE at h
    rw [hs] at h
    cases h
  | some s =>
    rw [bdE_some hs] at h
    cases hm : mrg 1 (S.2.1 0 S.1) s with
    | none => rw [hm] at h; cases h
    | some y =>
      rw [hm] at h
      have h : some ((S.1, oU (oU S.2.1 1 S.1 none) 0 S.1 (some y), S.2.2) : bSt) = some S' := h
      injection h with h
      rw [← h]
      refine ⟨rfl, ?_, y, oU_eq _ _ _ _⟩
      show oU (oU S.2.1 1 S.1 none) 0 S.1 (some y) 3 S.1 = _
      rw [oU_ne (by omega), oU_ne (by omega)]
/-- the eye on the text and the building keep step -/
def lkd (S : bSt) (s : aSt) : Prop := S.1 = s.1 ∧ (s.2.1 = true → ∃ m, S.2.1 3 S.1 = some m)
theorem bind_some {α β : Type} {x : Option α} {g : α → Option β} {y : β} (h : x.bind g = some y) : ∃ z, x = some z ∧ g z = some y := by
  cases x with
  | none => cases h
  | some z => exact ⟨z, rfl, h⟩
theorem map_some {α β : Type} {x : Option α} {g : α → β} {y : β} (h : x.map g = some y) : ∃ z, x = some z ∧ g z = y := by
  cases x with
  | none => cases h
  | some z =>
    have h : some (g z) = some y := h
    injection h with h
    exact ⟨z, rfl, h⟩
theorem sgn_link {S S' : bSt} {s s' : aSt} {c : Int} (hc : c ≠ 32) (hl : lkd S s) (ha : auS s c = some s') (h : sgn S c = some S') : lkd S' s' := by
  unfold auS at ha
  rw [if_neg hc] at ha
  unfold sgn at h
  by_cases c1 : c = 42 ∨ c = 43 ∨ c = 63
  · rw [if_pos c1] at h ha
    cases hb : s.2.1 with
    | false => rw [hb] at ha; cases ha
    | true =>
      rw [hb, if_pos rfl] at ha
      injection ha with ha
      rw [← ha]
      obtain ⟨m, hm⟩ := hl.2 hb
      rw [hm] at h
      obtain ⟨y, -, hy⟩ := map_some h
      rw [← hy]
      exact ⟨hl.1, fun _ => ⟨y, oU_eq _ _ _ _⟩⟩
  · rw [if_neg c1] at h ha
    by_cases c2 : c = 40
    · rw [if_pos c2] at ha
      rw [if_neg (by omega), if_neg (by omega), if_neg (by omega)] at h
      obtain ⟨S1, h1, h2⟩ := map_some h
      have e1 := (bdI_1 h1).1
      unfold sgB at h2
      rw [if_neg (by omega), if_pos c2] at h2
      by_cases c15 : s.1 < 15
      · rw [if_pos c15] at ha
        injection ha with ha
        rw [← ha, ← h2]
        refine ⟨?_, fun e => by cases e⟩
        show S1.1 + 1 = s.1 + 1
        rw [e1, hl.1]
      · rw [if_neg c15] at ha; cases ha
    · rw [if_neg c2] at ha
      by_cases c3 : c = 41
      · rw [if_pos c3] at ha
        rw [if_neg (by omega), if_neg (by omega), if_pos c3] at h
        obtain ⟨S3, h3, h4⟩ := map_some h
        obtain ⟨S2, h2, h3'⟩ := bind_some h3
        obtain ⟨S1, h1, h2'⟩ := bind_some h2
        have e1 := (bdI_1 h1).1
        have e2 := (bdR_1 h2').1
        obtain ⟨e3, -, y, e5⟩ := bdE_1 h3'
        split at ha
        · next hh =>
          injection ha with ha
          rw [← ha, ← h4]
          refine ⟨?_, fun _ => ⟨y, ?_⟩⟩
          · show S3.1 - 1 = s.1 - 1
            rw [e3, e2, e1, hl.1]
          · show oU S3.2.1 3 (S3.1 - 1) (S3.2.1 0 S3.1) 3 (S3.1 - 1) = some y
            rw [oU_eq]
            exact e5
        · cases ha
      · rw [if_neg c3] at ha
        by_cases c4 : c = 124 ∨ c = 38
        · rw [if_pos c4] at ha
          split at ha
          · injection ha with ha
            rw [← ha]
            refine ⟨?_, fun e => by cases e⟩
            show S'.1 = s.1
            by_cases c5 : c = 124
            · rw [if_pos c5] at h
              obtain ⟨S1, h1, h2'⟩ := bind_some h
              rw [(bdR_1 h2').1, (bdI_1 h1).1, hl.1]
            · rw [if_neg c5, if_pos (by omega)] at h
              obtain ⟨S2, h2, h3'⟩ := bind_some h
              obtain ⟨S1, h1, h2'⟩ := bind_some h2
              rw [(bdE_1 h3').1, (bdR_1 h2').1, (bdI_1 h1).1, hl.1]
          · cases ha
        · rw [if_neg c4] at ha
          rw [if_neg (by omega), if_neg (by omega), if_neg c3] at h
          obtain ⟨S1, h1, h2⟩ := map_some h
          have e1 := (bdI_1 h1).1
          unfold sgB at h2
          by_cases c5 : c = 33
          · rw [if_pos c5] at ha h2
            injection ha with ha
            rw [← ha, ← h2]
            refine ⟨?_, fun e => by cases e⟩
            show S1.1 = s.1
            rw [e1, hl.1]
          · rw [if_neg c5] at ha h2
            rw [if_neg c2] at h2
            split at ha
            · injection ha with ha
              rw [← ha, ← h2]
              refine ⟨?_, fun _ => ⟨_, oU_eq _ _ _ _⟩⟩
              show S1.1 = s.1
              rw [e1, hl.1]
            · cases ha
set_option maxRecDepth 4000 in
theorem q_92 {d : Nat} {u : uS} {S : bSt} {c : Int} (hB : CB u S) (hE : CE u) (hn : S.2.1 3 S.1 = none) (hc : c = 33 ∨ (c = 40 ∧ S.1 < 15) ∨ atm c) : cI (d + 6) 92 [.ref 63, iV c] u (fun r u' => r = 1 ∧ XF u u' ∧ CE u' ∧ CB u' (sgB c S)) := by
  obtain ⟨c1, c2, c3, c4, c5, c6⟩ := id hB
  have hrI : rI c := by
    rcases hc with h | h | h
    · exact ⟨by omega, by omega⟩
    · exact ⟨by omega, by omega⟩
    · unfold atm at h
      exact ⟨by omega, by omega⟩
  refine e_92 (d := d + 4) ⟨hrI, ?_⟩
  by_cases h33 : c = 33
  · rw [if_pos h33, c1, c4 S.1 (Nat.le_refl _)]
    have hb := b2_r (S.2.2 S.1)
    refine ⟨by omega, by omega, ⟨by omega, by omega⟩, ?_⟩
    have eS : sgB c S = (S.1, S.2.1, tU S.2.2 S.1 (!S.2.2 S.1)) := by unfold sgB; rw [if_pos h33]
    have fin : ∀ (y : Int) (u7 : uS), y = b2 (!S.2.2 S.1) → u7 = wr u 88 (S.1 : Nat) y → (1 : Int) = 1 ∧ XF u u7 ∧ CE u7 ∧ CB u7 (sgB c S) := by
      intro y u7 hy e7
      have h7 : ∀ b, b ≠ 88 → u7.1 b = u.1 b := fun b hb => by rw [e7, wr_ne hb]
      refine ⟨rfl, by rw [e7]; exact XF_wr (by omega) (by omega) (XF_refl u), CE_of hE (h7 70 (by decide)) (h7 78 (by decide)) (h7 79 (by decide)), ?_⟩
      rw [eS]
      refine ⟨by rw [h7 63 (by decide)]; exact c1, c2, fun a l ha hl => ⟨by rw [h7 (85 + a) (by omega)]; exact (c3 a l ha hl).1, fun m hm => ?_⟩, fun l hl => ?_, by rw [h7 63 (by decide)]; exact c5, fun m hm => ?_⟩
      · have hl : l ≤ S.1 := hl
        obtain ⟨z1, z2⟩ := (c3 a l ha hl).2 m hm
        exact ⟨z1, cMa_of z2 (by rw [h7 _ (by omega)]) (by rw [h7 _ (by omega)]) (h7 _ (by omega))⟩
      · show u7.1 88 l = b2 (tU S.2.2 S.1 (!S.2.2 S.1) l)
        unfold tU
        rw [e7, wr_uf]
        by_cases e : l = S.1
        · rw [if_pos e, e, uf_eq]; exact hy
        · rw [if_neg e, uf_ne (by omega)]; exact c4 l hl
      · have hm : S.2.1 3 S.1 = some m := hm
        rw [hn] at hm
        cases hm
    cases ht : S.2.2 S.1 with
    | false =>
      rw [if_pos b2f]
      exact fun u7 e7 => fin 1 u7 (by rw [ht]; rfl) e7
    | true =>
      rw [if_neg (by decide)]
      exact fun u7 e7 => fin 0 u7 (by rw [ht]; rfl) e7
  · rw [if_neg h33]
    by_cases h40 : c = 40
    · have h15 : S.1 < 15 := by
        rcases hc with h | h | h
        · exact absurd h h33
        · exact h.2
        · unfold atm at h; omega
      rw [if_pos h40, c1]
      refine ⟨⟨by omega, by omega⟩, fun u13 e13 => ?_⟩
      have k13 : u13.1 63 0 = ((S.1 + 1 : Nat) : Int) := by rw [e13, wr_self]; omega
      rw [k13]
      refine ⟨by omega, by omega, fun u17 e17 => ?_⟩
      have k17 : u17.1 63 0 = ((S.1 + 1 : Nat) : Int) := by rw [e17, wr_ne (by decide)]; exact k13
      rw [k17]
      refine ⟨by omega, by omega, fun u21 e21 => ?_⟩
      have k21 : u21.1 63 0 = ((S.1 + 1 : Nat) : Int) := by rw [e21, wr_ne (by decide)]; exact k17
      rw [k21]
      refine ⟨by omega, by omega, fun u25 e25 => ?_⟩
      have k25 : u25.1 63 0 = ((S.1 + 1 : Nat) : Int) := by rw [e25, wr_ne (by decide)]; exact k21
      rw [k25]
      refine ⟨by omega, by omega, fun u29 e29 u31 e31 => ?_⟩
      have hh : ∀ b, b ≠ 63 → b ≠ 85 → b ≠ 86 → b ≠ 87 → b ≠ 88 → u31.1 b = u.1 b := fun b h1 h2 h3 h4 h5 => by rw [e31, wr_ne h1, e29, wr_ne h5, e25, wr_ne h4, e21, wr_ne h3, e17, wr_ne h2, e13, wr_ne h1]
      have g85 : u31.1 85 = uf (u.1 85) ((S.1 + 1 : Nat) : Int) 0 := by rw [e31, wr_ne (by decide), e29, wr_ne (by decide), e25, wr_ne (by decide), e21, wr_ne (by decide), e17, wr_uf, e13, wr_ne (by decide)]
      have g86 : u31.1 86 = uf (u.1 86) ((S.1 + 1 : Nat) : Int) 0 := by rw [e31, wr_ne (by decide), e29, wr_ne (by decide), e25, wr_ne (by decide), e21, wr_uf, e17, wr_ne (by decide), e13, wr_ne (by decide)]
      have g87 : u31.1 87 = uf (u.1 87) ((S.1 + 1 : Nat) : Int) 0 := by rw [e31, wr_ne (by decide), e29, wr_ne (by decide), e25, wr_uf, e21, wr_ne (by decide), e17, wr_ne (by decide), e13, wr_ne (by decide)]
      have g88 : u31.1 88 = uf (u.1 88) ((S.1 + 1 : Nat) : Int) 0 := by rw [e31, wr_ne (by decide), e29, wr_uf, e25, wr_ne (by decide), e21, wr_ne (by decide), e17, wr_ne (by decide), e13, wr_ne (by decide)]
      have k31 : u31.1 63 0 = ((S.1 + 1 : Nat) : Int) := by rw [e31, wr_1, if_neg (by decide), e29, wr_ne (by decide)]; exact k25
      have eS : sgB c S = (S.1 + 1, fun a l => if l = S.1 + 1 then none else S.2.1 a l, tU S.2.2 (S.1 + 1) false) := by unfold sgB; rw [if_neg h33, if_pos h40]
      refine ⟨rfl, ⟨fun b hb => hh b (by omega) (by omega) (by omega) (by omega) (by omega), fun b _ => by rw [e31, wr_2, e29, wr_2, e25, wr_2, e21, wr_2, e17, wr_2, e13, wr_2]⟩, CE_of hE (hh 70 (by decide) (by decide) (by decide) (by decide) (by decide)) (hh 78 (by decide) (by decide) (by decide) (by decide) (by decide)) (hh 79 (by decide) (by decide) (by decide) (by decide) (by decide)), ?_⟩
      rw [eS]
      refine ⟨k31, by show S.1 + 1 ≤ 15; omega, fun a l ha hl => ?_, fun l hl => ?_, ?_, fun m hm => ?_⟩
      · have hl : l ≤ S.1 + 1 := hl
        have ga : u31.1 (85 + a) = uf (u.1 (85 + a)) ((S.1 + 1 : Nat) : Int) 0 := by
          have ha3 : a = 0 ∨ a = 1 ∨ a = 2 := by omega
          rcases ha3 with e | e | e
          · rw [e]; exact g85
          · rw [e]; exact g86
          · rw [e]; exact g87
        show u31.1 (85 + a) l = b2 (if l = S.1 + 1 then none else S.2.1 a l).isSome ∧ ∀ m, (if l = S.1 + 1 then none else S.2.1 a l) = some m → _
        rw [ga]
        by_cases e : l = S.1 + 1
        · rw [if_pos e, e, uf_eq]
          exact ⟨rfl, fun m hm => by cases hm⟩
        · rw [if_neg e, uf_ne (by omega)]
          have old := c3 a l ha (by omega)
          refine ⟨old.1, fun m hm => ?_⟩
          obtain ⟨z1, z2⟩ := old.2 m hm
          exact ⟨z1, cMa_of z2 (by rw [hh _ (by omega) (by omega) (by omega) (by omega) (by omega)]) (by rw [hh _ (by omega) (by omega) (by omega) (by omega) (by omega)]) (hh _ (by omega) (by omega) (by omega) (by omega) (by omega))⟩
      · have hl : l ≤ S.1 + 1 := hl
        show u31.1 88 l = b2 (tU S.2.2 (S.1 + 1) false l)
        unfold tU
        rw [g88]
        by_cases e : l = S.1 + 1
        · rw [if_pos e, e, uf_eq]; rfl
        · rw [if_neg e, uf_ne (by omega)]; exact c4 l (by omega)
      · show u31.1 63 13 = b2 (if S.1 + 1 = S.1 + 1 then none else S.2.1 3 (S.1 + 1)).isSome
        rw [if_pos rfl, e31, wr_self]
        rfl
      · have hm : (if S.1 + 1 = S.1 + 1 then none else S.2.1 3 (S.1 + 1)) = some m := hm
        rw [if_pos rfl] at hm
        cases hm
    · rw [if_neg h40]
      have hat : atm c := by
        rcases hc with h | h | h
        · exact absurd h h33
        · exact absurd h.1 h40
        · exact h
      have eS : sgB c S = (S.1, oU S.2.1 3 S.1 (some (sMp (wOf c))), S.2.2) := by unfold sgB; rw [if_neg h33, if_neg h40]
      have fin : ∀ (u34 u35 : uS), cF 80 u u34 → cMa u34 80 (sMp (wOf c)) → u35 = wr u34 63 13 1 → (1 : Int) = 1 ∧ XF u u35 ∧ CE u35 ∧ CB u35 (sgB c S) := by
        intro u34 u35 f34 m34 e35
        have hh : ∀ b, b ≠ 63 → b ≠ 80 → b ≠ 81 → u35.1 b = u.1 b := fun b h1 h2 h3 => by rw [e35, wr_ne h1, f34.2 b h2 h3]
        have k0 : u35.1 63 0 = (S.1 : Nat) := by rw [e35, wr_1, if_neg (by decide), f34.2 63 (by decide) (by decide)]; exact c1
        refine ⟨rfl, ⟨fun b hb => hh b (by omega) (by omega) (by omega), fun b _ => by rw [e35, wr_2, f34.1]⟩, CE_of hE (hh 70 (by decide) (by decide) (by decide)) (hh 78 (by decide) (by decide) (by decide)) (hh 79 (by decide) (by decide) (by decide)), ?_⟩
        rw [eS]
        refine ⟨k0, c2, fun a l ha hl => ?_, fun l hl => by rw [hh 88 (by decide) (by decide) (by decide)]; exact c4 l hl, ?_, fun m hm => ?_⟩
        · have hl : l ≤ S.1 := hl
          show u35.1 (85 + a) l = b2 (oU S.2.1 3 S.1 (some (sMp (wOf c))) a l).isSome ∧ ∀ m, oU S.2.1 3 S.1 (some (sMp (wOf c))) a l = some m → _
          rw [oU_ne (by omega), hh (85 + a) (by omega) (by omega) (by omega)]
          have old := c3 a l ha hl
          refine ⟨old.1, fun m hm => ?_⟩
          obtain ⟨z1, z2⟩ := old.2 m hm
          exact ⟨z1, cMa_of z2 (by rw [hh _ (by omega) (by omega) (by omega)]) (by rw [hh _ (by omega) (by omega) (by omega)]) (hh _ (by omega) (by omega) (by omega))⟩
        · show u35.1 63 13 = b2 (oU S.2.1 3 S.1 (some (sMp (wOf c))) 3 S.1).isSome
          rw [oU_eq, e35, wr_self]
          rfl
        · have hm : oU S.2.1 3 S.1 (some (sMp (wOf c))) 3 S.1 = some m := hm
          rw [oU_eq] at hm
          injection hm with hm
          rw [← hm]
          exact ⟨sMp_ok _, cMa_of m34 (by rw [e35, wr_ne (by decide)]) (by rw [e35, wr_ne (by decide)]) (by rw [e35, wr_ne (by decide)])⟩
      by_cases h46 : c = 46
      · rw [if_pos h46]
        refine (q_94 (d := d + 2) isO_80).mono (Nat.le_refl _) (fun u34 h => fun u35 e35 => fin u34 u35 h.1 ?_ e35)
        have : sMp (wOf c) = aNy := by unfold wOf sMp; rw [if_pos h46]; rfl
        rw [this]
        exact h.2
      · rw [if_neg h46]
        by_cases h48 : c = 48
        · rw [if_pos h48]
          refine (q_95 (d := d + 2) isO_80).mono (Nat.le_refl _) (fun u34 h => fun u35 e35 => fin u34 u35 h.1 ?_ e35)
          have : sMp (wOf c) = nOn := by unfold wOf sMp; rw [if_neg h46, if_pos h48]; rfl
          rw [this]
          exact h.2
        · rw [if_neg h48]
          unfold atm at hat
          refine (q_96 (d := d + 1) isO_80 (show 0 ≤ c - 97 by omega) (by omega)).mono (Nat.le_refl _) (fun u34 h => fun u35 e35 => fin u34 u35 h.1 ?_ e35)
          have : sMp (wOf c) = lTr (c - 97) := by unfold wOf sMp; rw [if_neg h46, if_neg h48, if_neg (by omega), if_neg (by omega), if_neg (by omega)]
          rw [this]
          exact h.2
