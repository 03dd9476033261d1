/-! One side's building, whole -/
theorem bRun_none {f : Int → Int} {j : Nat} (h : bRun f j = none) : ∀ m : Nat, bRun f (j + m) = none
  | 0 => h
  | m + 1 => by
    show (bRun f (j + m)).bind _ = none
    rw [bRun_none h m]
    rfl
theorem bFin_none {f : Int → Int} {j n : Nat} (hj : j ≤ n) (h : bRun f j = none) : bFin f n = none := by
  have := bRun_none h (n - j)
  rw [show j + (n - j) = n by omega] at this
  unfold bFin
  rw [this]
  rfl
theorem bRun_s {f : Int → Int} {j : Nat} {S : bSt} (h : bRun f j = some S) : bRun f (j + 1) = if f j = 32 then some S else sgn S (f j) := by
  show (bRun f j).bind _ = _
  rw [h]
  rfl
def BF (f : Int → Int) (n : Nat) (u : uS) (r : Int) (u' : uS) : Prop := XF u u' ∧ CE u' ∧ ((r = 1 ∧ ∃ (S' : bSt) (m : Ma), bFin f n = some S' ∧ S'.2.1 0 0 = some m ∧ okM m ∧ cMa u' 89 m) ∨ (r = 0 ∧ bFin f n = none))
theorem CB_item {u u' : uS} {S : bSt} {y : Ma} (hB : CB u S) (hy : okM y) (hm : cMa u' 80 y) (h63 : u'.1 63 = u.1 63) (hs : ∃ m, S.2.1 3 S.1 = some m) (hh : ∀ b : Nat, 85 ≤ b → b ≤ 184 → u'.1 b = u.1 b) : CB u' (S.1, oU S.2.1 3 S.1 (some y), S.2.2) := by
  obtain ⟨c1, c2, c3, c4, c5, c6⟩ := hB
  refine ⟨by rw [h63]; exact c1, c2, fun a l ha hl => ?_, fun l hl => by rw [hh 88 (by omega) (by omega)]; exact c4 l hl, ?_, fun m hm' => ?_⟩
  · have hl : l ≤ S.1 := hl
    show u'.1 (85 + a) l = b2 (oU S.2.1 3 S.1 (some y) a l).isSome ∧ ∀ m, oU S.2.1 3 S.1 (some y) a l = some m → _
    rw [oU_ne (by omega), hh (85 + a) (by omega) (by omega)]
    have old := c3 a l ha hl
    refine ⟨old.1, fun m hm => ?_⟩
    obtain ⟨z1, z2⟩ := old.2 m hm
    exact ⟨z1, cMa_of z2 (by rw [hh _ (by omega) (by omega)]) (by rw [hh _ (by omega) (by omega)]) (hh _ (by omega) (by omega))⟩
  · show u'.1 63 13 = b2 (oU S.2.1 3 S.1 (some y) 3 S.1).isSome
    obtain ⟨m, hm'⟩ := hs
    rw [oU_eq, h63, c5, hm']
    rfl
  · have hm' : oU S.2.1 3 S.1 (some y) 3 S.1 = some m := hm'
    rw [oU_eq] at hm'
    injection hm' with hm'
    rw [← hm']
    exact ⟨hy, hm⟩
set_option maxRecDepth 4000 in
theorem q_67 {d n : Nat} {f : Int → Int} {u : uS} {b : Bool} (hn : n ≤ 300) (hf : ∀ j : Nat, j < n → rI (f j)) (ht : txt u f n) (hE : CE u) (hau : auR f n = some (0, b, false)) : cI (d + 9) 67 [.ref 63, .ref 1] u (BF f n u) := by
  obtain ⟨t5, t3, tt⟩ := ht
  have hsome : ∀ j : Nat, j ≤ n → ∃ s, auR f j = some s := by
    intro j hj
    cases h : auR f j with
    | some s => exact ⟨s, rfl⟩
    | none =>
      have := auR_none h (n - j)
      rw [show j + (n - j) = n by omega, hau] at this
      cases this
  have dead : ∀ (v : uS) (x : Int), XF u v → CE v → bFin f n = none → K_67 (d + 8) 13 [.ref 63, .ref 1, iV 0, iV x, .retAddr 0] [] v (BF f n u) := by
    intro v x hX hE' hb
    refine k_67_13 (d := d + 6) ⟨⟨by omega, by omega⟩, ?_⟩
    rw [if_pos rfl]
    exact ⟨hX, hE', Or.inr ⟨rfl, hb⟩⟩
  have loop : ∀ (m j : Nat) (v : uS) (S : bSt) (s : aSt), j + m = n → XF u v → CE v → CB v S → auR f j = some s → lkd S s → bRun f j = some S → K_67 (d + 8) 13 [.ref 63, .ref 1, iV 1, iV (cnt f j), .retAddr 0] [] v (BF f n u) := by
    intro m
    induction m with
    | zero =>
      intro j v S s hj hX hE' hB ha hl hr
      have ej : j = n := by omega
      rw [ej] at ha hr ⊢
      have hc := cnt_r f n
      have e5 : v.1 1 5 = cnt f n := by rw [hX.1 1 (by omega)]; exact t5
      have hs0 : S.1 = 0 := by
        rw [hau] at ha
        injection ha with ha
        rw [hl.1, ← ha]
      refine k_67_13 (d := d + 6) ⟨⟨by omega, by omega⟩, ?_⟩
      rw [if_neg (by decide)]
      refine ⟨⟨by omega, by omega⟩, ⟨by omega, by omega⟩, ?_⟩
      rw [if_neg (by omega)]
      refine (q_86 (d := d) hB hE').mono (Nat.le_refl _) (fun r1 u1 h1 => ?_)
      obtain ⟨x1, y1, h1⟩ := h1
      rcases h1 with ⟨a1, S1, b1, d1⟩ | ⟨a1, b1⟩
      · rw [a1]
        refine ⟨⟨by omega, by omega⟩, ?_⟩
        rw [if_neg (by decide)]
        refine (q_89 (d := d) d1 y1).mono (Nat.le_refl _) (fun r2 u2 h2 => ?_)
        obtain ⟨x2, y2, h2⟩ := h2
        rcases h2 with ⟨a2, S2, b2', d2⟩ | ⟨a2, b2'⟩
        · rw [a2]
          refine ⟨⟨by omega, by omega⟩, ?_⟩
          rw [if_neg (by decide)]
          obtain ⟨e2, -, z, hz⟩ := bdR_1 b2'
          refine (q_90 (d := d) d2 y2 hz).mono (Nat.le_refl _) (fun r3 u3 h3 => ?_)
          obtain ⟨x3, y3, h3⟩ := h3
          have hX3 := XF_trans hX (XF_trans x1 (XF_trans x2 x3))
          rcases h3 with ⟨a3, S3, b3, d3⟩ | ⟨a3, b3⟩
          · rw [a3]
            refine ⟨⟨by omega, by omega⟩, ?_⟩
            rw [if_neg (by decide)]
            obtain ⟨e3, -, y, hy⟩ := bdE_1 b3
            have e1 := (bdI_1 b1).1
            have hS3 : S3.1 = 0 := by rw [e3, e2, e1, hs0]
            obtain ⟨z1, z2⟩ := (d3.2.2.1 0 S3.1 (by omega) (Nat.le_refl _)).2 y hy
            rw [hS3] at hy z2
            refine ⟨hX3, y3, Or.inl ⟨rfl, S3, y, ?_, hy, z1, z2⟩⟩
            unfold bFin
            rw [hr]
            show ((bdI S).bind bdR).bind bdE = some S3
            rw [b1]
            show (bdR S1).bind bdE = some S3
            rw [b2']
            exact b3
          · rw [a3]
            refine ⟨⟨by omega, by omega⟩, ?_⟩
            rw [if_pos rfl]
            refine ⟨hX3, y3, Or.inr ⟨rfl, ?_⟩⟩
            unfold bFin
            rw [hr]
            show ((bdI S).bind bdR).bind bdE = none
            rw [b1]
            show (bdR S1).bind bdE = none
            rw [b2']
            exact b3
        · rw [a2]
          refine ⟨⟨by omega, by omega⟩, ?_⟩
          rw [if_pos rfl]
          refine ⟨XF_trans hX (XF_trans x1 x2), y2, Or.inr ⟨rfl, ?_⟩⟩
          unfold bFin
          rw [hr]
          show ((bdI S).bind bdR).bind bdE = none
          rw [b1]
          show (bdR S1).bind bdE = none
          rw [b2']
          rfl
      · rw [a1]
        refine ⟨⟨by omega, by omega⟩, ?_⟩
        rw [if_pos rfl]
        refine ⟨XF_trans hX x1, y1, Or.inr ⟨rfl, ?_⟩⟩
        unfold bFin
        rw [hr]
        show ((bdI S).bind bdR).bind bdE = none
        rw [b1]
        rfl
    | succ m ih =>
      intro j v S s hj hX hE' hB ha hl hr
      have hc := cnt_r f j
      have hcs := cnt_s f j
      have hrs := bRun_s hr
      obtain ⟨s', hs'⟩ := hsome (j + 1) (by omega)
      have has := auR_s ha
      rw [hs'] at has
      have has : auS s (f j) = some s' := has.symm
      by_cases c32 : f j = 32
      · rw [if_pos c32] at hcs hrs
        have e : s' = s := by
          unfold auS at has
          rw [if_pos c32] at has
          injection has with has
          exact has.symm
        have h0 := ih (j + 1) v S s' (by omega) hX hE' hB hs' (by rw [e]; exact hl) hrs
        rw [hcs] at h0
        exact h0
      · have hlt := cnt_lt f (show j < n by omega) c32
        have hcn := cnt_r f n
        rw [if_neg c32] at hcs hrs
        have e5 : v.1 1 5 = cnt f n := by rw [hX.1 1 (by omega)]; exact t5
        have e3 : v.1 3 (cnt f j) = f j := by rw [hX.1 3 (by omega)]; exact (tt j (by omega) c32).1
        have ok : ∀ (v' : uS) (S' : bSt), sgn S (f j) = some S' → XF u v' → CE v' → CB v' S' → K_67 (d + 8) 13 [.ref 63, .ref 1, iV 1, iV (cnt f j + 1), .retAddr 0] [] v' (BF f n u) := by
          intro v' S' h1 h2 h3 h4
          have h0 := ih (j + 1) v' S' s' (by omega) h2 h3 h4 hs' (sgn_link c32 hl has h1) (by rw [hrs]; exact h1)
          rw [hcs] at h0
          exact h0
        have no : ∀ (v' : uS), sgn S (f j) = none → XF u v' → CE v' → K_67 (d + 8) 13 [.ref 63, .ref 1, iV 0, iV (cnt f j + 1), .retAddr 0] [] v' (BF f n u) := by
          intro v' h1 h2 h3
          exact dead v' _ h2 h3 (bFin_none (show j + 1 ≤ n by omega) (by rw [hrs]; exact h1))
        have hfj := hf j (by omega)
        refine k_67_13 (d := d + 6) ⟨⟨by omega, by omega⟩, ?_⟩
        rw [if_neg (by decide)]
        refine ⟨⟨by omega, by omega⟩, ⟨by omega, by omega⟩, ?_⟩
        rw [if_pos (by omega), e3]
        refine ⟨by omega, by omega, hfj, ?_⟩
        generalize f j = c at *
        by_cases c38 : c = 38
        · have eg : sgn S c = ((bdI S).bind bdR).bind bdE := by
            unfold sgn
            rw [if_neg (by omega), if_neg (by omega), if_pos c38]
          rw [if_pos c38]
          refine (q_86 (d := d) hB hE').mono (Nat.le_refl _) (fun r1 u1 h1 => ?_)
          obtain ⟨x1, y1, h1⟩ := h1
          rcases h1 with ⟨a1, S1, b1, d1⟩ | ⟨a1, b1⟩
          · rw [a1]
            refine ⟨⟨by omega, by omega⟩, ?_⟩
            rw [if_neg (by decide)]
            refine (q_89 (d := d) d1 y1).mono (Nat.le_refl _) (fun r2 u2 h2 => ?_)
            obtain ⟨x2, y2, h2⟩ := h2
            rcases h2 with ⟨a2, S2, b2', d2⟩ | ⟨a2, b2'⟩
            · rw [a2]
              refine ⟨⟨by omega, by omega⟩, ?_⟩
              rw [if_neg (by decide)]
              obtain ⟨e2, -, z, hz⟩ := bdR_1 b2'
              refine (q_90 (d := d) d2 y2 hz).mono (Nat.le_refl _) (fun r3 u3 h3 => ?_)
              obtain ⟨x3, y3, h3⟩ := h3
              have hX3 := XF_trans hX (XF_trans x1 (XF_trans x2 x3))
              have eg2 : sgn S c = bdE S2 := by
                rw [eg, b1]
                show (bdR S1).bind bdE = _
                rw [b2']
                rfl
              rcases h3 with ⟨a3, S3, b3, d3⟩ | ⟨a3, b3⟩
              · rw [a3]
                refine ⟨⟨by omega, by omega⟩, ?_⟩
                rw [if_neg (by decide)]
                exact ok u3 S3 (by rw [eg2]; exact b3) hX3 y3 d3
              · rw [a3]
                refine ⟨⟨by omega, by omega⟩, ?_⟩
                rw [if_pos rfl]
                exact no u3 (by rw [eg2]; exact b3) hX3 y3
            · rw [a2]
              refine ⟨⟨by omega, by omega⟩, ?_⟩
              rw [if_pos rfl]
              refine no u2 ?_ (XF_trans hX (XF_trans x1 x2)) y2
              rw [eg, b1]
              show (bdR S1).bind bdE = _
              rw [b2']
              rfl
          · rw [a1]
            refine ⟨⟨by omega, by omega⟩, ?_⟩
            rw [if_pos rfl]
            exact no u1 (by rw [eg, b1]; rfl) (XF_trans hX x1) y1
        · rw [if_neg c38]
          by_cases c41 : c = 41
          · have eg : sgn S c = (((bdI S).bind bdR).bind bdE).map (fun S => (S.1 - 1, oU S.2.1 3 (S.1 - 1) (S.2.1 0 S.1), S.2.2)) := by
              unfold sgn
              rw [if_neg (by omega), if_neg (by omega), if_neg c38, if_pos c41]
            have hs1 : 0 < s.1 := by
              unfold auS at has
              rw [if_neg c32, if_neg (by omega), if_neg (by omega), if_pos c41] at has
              split at has
              · next hh => exact hh.1
              · cases has
            rw [if_pos c41]
            refine (q_86 (d := d) hB hE').mono (Nat.le_refl _) (fun r1 u1 h1 => ?_)
            obtain ⟨x1, y1, h1⟩ := h1
            rcases h1 with ⟨a1, S1, b1, d1⟩ | ⟨a1, b1⟩
            · rw [a1]
              refine ⟨⟨by omega, by omega⟩, ?_⟩
              rw [if_neg (by decide)]
              refine (q_89 (d := d) d1 y1).mono (Nat.le_refl _) (fun r2 u2 h2 => ?_)
              obtain ⟨x2, y2, h2⟩ := h2
              rcases h2 with ⟨a2, S2, b2', d2⟩ | ⟨a2, b2'⟩
              · rw [a2]
                refine ⟨⟨by omega, by omega⟩, ?_⟩
                rw [if_neg (by decide)]
                obtain ⟨e2, -, z, hz⟩ := bdR_1 b2'
                refine (q_90 (d := d) d2 y2 hz).mono (Nat.le_refl _) (fun r3 u3 h3 => ?_)
                obtain ⟨x3, y3, h3⟩ := h3
                have hX3 := XF_trans hX (XF_trans x1 (XF_trans x2 x3))
                have eg2 : sgn S c = (bdE S2).map (fun S => (S.1 - 1, oU S.2.1 3 (S.1 - 1) (S.2.1 0 S.1), S.2.2)) := by
                  rw [eg, b1]
                  show ((bdR S1).bind bdE).map _ = _
                  rw [b2']
                  rfl
                rcases h3 with ⟨a3, S3, b3, d3⟩ | ⟨a3, b3⟩
                · rw [a3]
                  refine ⟨⟨by omega, by omega⟩, ?_⟩
                  rw [if_neg (by decide)]
                  obtain ⟨e3', -, y, hy⟩ := bdE_1 b3
                  have e1 := (bdI_1 b1).1
                  have hS3 : S3.1 = s.1 := by rw [e3', e2, e1, hl.1]
                  obtain ⟨g1, g2, g3, g4, g5, g6⟩ := id d3
                  obtain ⟨z1, z2⟩ := (g3 0 S3.1 (by omega) (Nat.le_refl _)).2 y hy
                  have z2 : cMa u3 (89 + 6 * S3.1) y := z2
                  rw [g1, Int.toNat_natCast]
                  refine ⟨by omega, by omega, fun u39 e39 u41 e41 => ?_⟩
                  have k41 : u41.1 80 0 = (y.1 : Nat) := by rw [e41, wr_1, if_neg (by decide), e39, wr_self]; exact z2.1
                  have h40 := z1.2.1
                  rw [k41]
                  refine ⟨by omega, by omega, fun u45 e45 => ?_⟩
                  rw [← k41] at e45
                  obtain ⟨q1, q2⟩ := take_ok (u := u3) (a := 80) (l := 89 + 6 * S3.1) z1 z2 (by omega) (by omega) (by omega) u39 e39 e41 e45
                  have k45 : u45.1 63 0 = (S3.1 : Nat) := by rw [q2.2 63 (by decide) (by decide)]; exact g1
                  rw [k45]
                  refine ⟨⟨by omega, by omega⟩, fun u48 e48 u50 e50 => ?_⟩
                  have hh : ∀ b, b ≠ 63 → b ≠ 80 → b ≠ 81 → u50.1 b = u3.1 b := fun b h1 h2 h3 => by rw [e50, wr_ne h1, e48, wr_ne h1, q2.2 b h2 h3]
                  refine ok u50 (S3.1 - 1, oU S3.2.1 3 (S3.1 - 1) (S3.2.1 0 S3.1), S3.2.2) (by rw [eg2, b3]; rfl) (XF_trans hX3 ⟨fun b hb => hh b (by omega) (by omega) (by omega), fun b _ => by rw [e50, wr_2, e48, wr_2, q2.1]⟩) (CE_of y3 (hh 70 (by decide) (by decide) (by decide)) (hh 78 (by decide) (by decide) (by decide)) (hh 79 (by decide) (by decide) (by decide))) ?_
                  refine ⟨?_, by show S3.1 - 1 ≤ 15; omega, fun a l ha' hl' => ?_, fun l hl' => ?_, ?_, fun m hm => ?_⟩
                  · rw [e50, wr_1, if_neg (by decide), e48, wr_self]
                    show _ = ((S3.1 - 1 : Nat) : Int)
                    omega
                  · have hl' : l ≤ S3.1 - 1 := hl'
                    show u50.1 (85 + a) l = b2 (oU S3.2.1 3 (S3.1 - 1) (S3.2.1 0 S3.1) a l).isSome ∧ ∀ m, oU S3.2.1 3 (S3.1 - 1) (S3.2.1 0 S3.1) a l = some m → _
                    rw [oU_ne (by omega), hh (85 + a) (by omega) (by omega) (by omega)]
                    have old := g3 a l ha' (by omega)
                    refine ⟨old.1, fun m hm => ?_⟩
                    obtain ⟨w1, w2⟩ := old.2 m hm
                    exact ⟨w1, cMa_of w2 (by rw [hh _ (by omega) (by omega) (by omega)]) (by rw [hh _ (by omega) (by omega) (by omega)]) (hh _ (by omega) (by omega) (by omega))⟩
                  · have hl' : l ≤ S3.1 - 1 := hl'
                    rw [hh 88 (by decide) (by decide) (by decide)]
                    exact g4 l (by omega)
                  · show u50.1 63 13 = b2 (oU S3.2.1 3 (S3.1 - 1) (S3.2.1 0 S3.1) 3 (S3.1 - 1)).isSome
                    rw [oU_eq, hy, e50, wr_self]
                    rfl
                  · have hm : oU S3.2.1 3 (S3.1 - 1) (S3.2.1 0 S3.1) 3 (S3.1 - 1) = some m := hm
                    rw [oU_eq, hy] at hm
                    injection hm with hm
                    rw [← hm]
                    exact ⟨z1, cMa_of q1 (by rw [e50, wr_ne (by decide), e48, wr_ne (by decide)]) (by rw [e50, wr_ne (by decide), e48, wr_ne (by decide)]) (by rw [e50, wr_ne (by decide), e48, wr_ne (by decide)])⟩
                · rw [a3]
                  refine ⟨⟨by omega, by omega⟩, ?_⟩
                  rw [if_pos rfl]
                  exact no u3 (by rw [eg2, b3]; rfl) hX3 y3
              · rw [a2]
                refine ⟨⟨by omega, by omega⟩, ?_⟩
                rw [if_pos rfl]
                refine no u2 ?_ (XF_trans hX (XF_trans x1 x2)) y2
                rw [eg, b1]
                show ((bdR S1).bind bdE).map _ = _
                rw [b2']
                rfl
            · rw [a1]
              refine ⟨⟨by omega, by omega⟩, ?_⟩
              rw [if_pos rfl]
              exact no u1 (by rw [eg, b1]; rfl) (XF_trans hX x1) y1
          · rw [if_neg c41]
            -- signs that say how often
            have often : ∀ (k : Int) (l3 : Nat) (B : Ma), 0 ≤ k → k ≤ 4 → (c = 42 ∨ c = 43 ∨ c = 63) → isO l3 5 → 77 < l3 → (∀ m, S.2.1 3 S.1 = some m → okM m → cMa v 80 m → ∃ B, okM B ∧ cMa v l3 B ∧ sgO c m = mkR k m B) → cI (d + 8) 69 [.ref 64, iV k, .ref 80, .ref l3, .ref 80] v (fun r54 u53 => K_67 (d + 8) 13 [.ref 63, .ref 1, iV r54, iV (cnt f j + 1), .retAddr 0] [] u53 (BF f n u)) := by
              intro k l3 _ k0 k4 hc3 o3 g3 hB3
              have hba : s.2.1 = true := by
                unfold auS at has
                rw [if_neg c32, if_pos hc3] at has
                split at has
                · next hh => exact hh
                · cases has
              obtain ⟨m, hm⟩ := hl.2 hba
              obtain ⟨m1, m2⟩ := hB.2.2.2.2.2 m hm
              obtain ⟨B, p1, p2, p3⟩ := hB3 m hm m1 m2
              have eg : sgn S c = (sgO c m).map (fun y => (S.1, oU S.2.1 3 S.1 (some y), S.2.2)) := by
                unfold sgn
                rw [if_pos hc3, hm]
              refine (q_69 (d := d + 2) isO_80 o3 isO_80 (by omega) g3 (by omega) k0 k4 m2 p2 m1 p1 hE'.2).mono (Nat.le_refl _) (fun r54 u53 h => ?_)
              obtain ⟨h1, h2⟩ := h
              have hX' := XF_trans hX (XF_mk (by omega) (by omega) h1)
              have hE'' := CE_mk (by omega) (by omega) (by omega) hE' h1
              rcases h2 with ⟨a1, y, a2, a3, a4⟩ | ⟨a1, a2⟩
              · rw [a1]
                refine ok u53 (S.1, oU S.2.1 3 S.1 (some y), S.2.2) (by rw [eg, p3, mkR_some ((MK_as k0 k4).1 y a2)]; rfl) hX' hE'' (CB_item hB a3 a4 (h1.1 63 (by decide)) ⟨m, hm⟩ (fun b b1 b2 => h1.1 b (by simp only [List.mem_cons, List.not_mem_nil, or_false, not_or]; omega)))
              · rw [a1]
                exact no u53 (by rw [eg, p3, mkR_none ((MK_as k0 k4).2 a2)]; rfl) hX' hE''
            by_cases c42 : c = 42
            · rw [if_pos c42]
              exact often 4 80 eMp (by omega) (by omega) (Or.inl c42) isO_80 (by omega) (fun m _ h1 h2 => ⟨m, h1, h2, by unfold sgO; rw [if_pos c42]⟩)
            · rw [if_neg c42]
              by_cases c43 : c = 43
              · rw [if_pos c43]
                exact often 3 80 eMp (by omega) (by omega) (Or.inr (Or.inl c43)) isO_80 (by omega) (fun m _ h1 h2 => ⟨m, h1, h2, by unfold sgO; rw [if_neg c42, if_pos c43]⟩)
              · rw [if_neg c43]
                by_cases c63 : c = 63
                · rw [if_pos c63]
                  exact often 0 78 eMp (by omega) (by omega) (Or.inr (Or.inr c63)) isO_78 (by omega) (fun m _ h1 h2 => ⟨eMp, eMp_ok, hE'.1, by unfold sgO; rw [if_neg c42, if_neg c43]⟩)
                · rw [if_neg c63]
                  by_cases c124 : c = 124
                  · have eg : sgn S c = (bdI S).bind bdR := by
                      unfold sgn
                      rw [if_neg (by omega), if_pos c124]
                    rw [if_pos c124]
                    refine (q_86 (d := d) hB hE').mono (Nat.le_refl _) (fun r1 u1 h1 => ?_)
                    obtain ⟨x1, y1, h1⟩ := h1
                    rcases h1 with ⟨a1, S1, b1, d1⟩ | ⟨a1, b1⟩
                    · rw [a1]
                      refine ⟨⟨by omega, by omega⟩, ?_⟩
                      rw [if_neg (by decide)]
                      refine (q_89 (d := d) d1 y1).mono (Nat.le_refl _) (fun r2 u2 h2 => ?_)
                      obtain ⟨x2, y2, h2⟩ := h2
                      have hX2 := XF_trans hX (XF_trans x1 x2)
                      rcases h2 with ⟨a2, S2, b2', d2⟩ | ⟨a2, b2'⟩
                      · rw [a2]
                        refine ⟨⟨by omega, by omega⟩, ?_⟩
                        rw [if_neg (by decide)]
                        exact ok u2 S2 (by rw [eg, b1]; exact b2') hX2 y2 d2
                      · rw [a2]
                        refine ⟨⟨by omega, by omega⟩, ?_⟩
                        rw [if_pos rfl]
                        exact no u2 (by rw [eg, b1]; exact b2') hX2 y2
                    · rw [a1]
                      refine ⟨⟨by omega, by omega⟩, ?_⟩
                      rw [if_pos rfl]
                      exact no u1 (by rw [eg, b1]; rfl) (XF_trans hX x1) y1
                  · rw [if_neg c124]
                    have eg : sgn S c = (bdI S).map (sgB c) := by
                      unfold sgn
                      rw [if_neg (by omega), if_neg c124, if_neg c38, if_neg c41]
                    refine (q_86 (d := d) hB hE').mono (Nat.le_refl _) (fun r1 u1 h1 => ?_)
                    obtain ⟨x1, y1, h1⟩ := h1
                    rcases h1 with ⟨a1, S1, b1, d1⟩ | ⟨a1, b1⟩
                    · rw [a1]
                      refine ⟨⟨by omega, by omega⟩, ?_⟩
                      rw [if_neg (by decide)]
                      obtain ⟨i1, i2⟩ := bdI_1 b1
                      have hcc : c = 33 ∨ (c = 40 ∧ S1.1 < 15) ∨ atm c := by
                        unfold auS at has
                        rw [if_neg c32, if_neg (by omega)] at has
                        by_cases c40 : c = 40
                        · rw [if_pos c40] at has
                          split at has
                          · next hh => exact Or.inr (Or.inl ⟨c40, by rw [i1, hl.1]; exact hh⟩)
                          · cases has
                        · rw [if_neg c40, if_neg c41, if_neg (by omega)] at has
                          by_cases c33 : c = 33
                          · exact Or.inl c33
                          · rw [if_neg c33] at has
                            split at has
                            · next hh => exact Or.inr (Or.inr hh)
                            · cases has
                      refine (q_92 (d := d + 2) d1 y1 i2 hcc).mono (Nat.le_refl _) (fun r2 u2 h2 => ?_)
                      obtain ⟨a2, x2, y2, d2⟩ := h2
                      rw [a2]
                      refine ⟨⟨by omega, by omega⟩, ?_⟩
                      rw [if_neg (by decide)]
                      exact ok u2 (sgB c S1) (by rw [eg, b1]; rfl) (XF_trans hX (XF_trans x1 x2)) y2 d2
                    · rw [a1]
                      refine ⟨⟨by omega, by omega⟩, ?_⟩
                      rw [if_pos rfl]
                      exact no u1 (by rw [eg, b1]; rfl) (XF_trans hX x1) y1
  refine e_67 (d := d + 6) (fun u1 e1 => ?_)
  have k1 : u1.1 63 0 = 0 := by rw [e1, wr_self]
  rw [k1]
  refine ⟨by omega, by omega, fun u5 e5 => ?_⟩
  have k5 : u5.1 63 0 = 0 := by rw [e5, wr_ne (by decide)]; exact k1
  rw [k5]
  refine ⟨by omega, by omega, fun u9 e9 => ?_⟩
  have k9 : u9.1 63 0 = 0 := by rw [e9, wr_ne (by decide)]; exact k5
  rw [k9]
  refine ⟨by omega, by omega, fun u13 e13 => ?_⟩
  have k13 : u13.1 63 0 = 0 := by rw [e13, wr_ne (by decide)]; exact k9
  rw [k13]
  refine ⟨by omega, by omega, fun u17 e17 u19 e19 => ?_⟩
  have hh : ∀ b, b ≠ 63 → b ≠ 85 → b ≠ 86 → b ≠ 87 → b ≠ 88 → u19.1 b = u.1 b := fun b h1 h2 h3 h4 h5 => by rw [e19, wr_ne h1, e17, wr_ne h5, e13, wr_ne h4, e9, wr_ne h3, e5, wr_ne h2, e1, wr_ne h1]
  have k19 : u19.1 63 0 = 0 := by rw [e19, wr_1, if_neg (by decide), e17, wr_ne (by decide)]; exact k13
  have g85 : u19.1 85 0 = 0 := by rw [e19, wr_ne (by decide), e17, wr_ne (by decide), e13, wr_ne (by decide), e9, wr_ne (by decide), e5, wr_self]
  have g86 : u19.1 86 0 = 0 := by rw [e19, wr_ne (by decide), e17, wr_ne (by decide), e13, wr_ne (by decide), e9, wr_self]
  have g87 : u19.1 87 0 = 0 := by rw [e19, wr_ne (by decide), e17, wr_ne (by decide), e13, wr_self]
  have g88 : u19.1 88 0 = 0 := by rw [e19, wr_ne (by decide), e17, wr_self]
  refine loop n 0 u19 (0, fun _ _ => none, fun _ => false) (0, false, false) (by omega) ⟨fun b hb => hh b (by omega) (by omega) (by omega) (by omega) (by omega), fun b _ => by rw [e19, wr_2, e17, wr_2, e13, wr_2, e9, wr_2, e5, wr_2, e1, wr_2]⟩ (CE_of hE (hh 70 (by decide) (by decide) (by decide) (by decide) (by decide)) (hh 78 (by decide) (by decide) (by decide) (by decide) (by decide)) (hh 79 (by decide) (by decide) (by decide) (by decide) (by decide))) ?_ rfl ⟨rfl, fun e => by cases e⟩ rfl
  refine ⟨k19, by show 0 ≤ 15; omega, fun a l ha hl => ⟨?_, fun m hm => by cases hm⟩, fun l hl => ?_, ?_, fun m hm => by cases hm⟩
  · have hl : l ≤ 0 := hl
    have el : l = 0 := by omega
    rw [el]
    have ha3 : a = 0 ∨ a = 1 ∨ a = 2 := by omega
    rcases ha3 with e | e | e
    · rw [e]; exact g85
    · rw [e]; exact g86
    · rw [e]; exact g87
  · have hl : l ≤ 0 := hl
    have el : l = 0 := by omega
    rw [el]
    exact g88
  · rw [e19, wr_self]
    rfl
