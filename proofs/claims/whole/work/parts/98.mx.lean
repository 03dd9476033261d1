/-! One side's ends of items, rows and sums -/
theorem bdI_none {S : bSt} (h : S.2.1 3 S.1 = none) : bdI S = some S := by unfold bdI; rw [h]
theorem bdI_some {S : bSt} {m : Ma} (h : S.2.1 3 S.1 = some m) : bdI S = (mrg 2 (S.2.1 2 S.1) (if S.2.2 S.1 = true then cMp m else m)).map (fun y => (S.1, oU (oU S.2.1 3 S.1 none) 2 S.1 (some y), tU S.2.2 S.1 false)) := by unfold bdI; rw [h]
theorem bdE_some {S : bSt} {s : Ma} (h : S.2.1 1 S.1 = some s) : bdE S = (mrg 1 (S.2.1 0 S.1) s).map (fun y => (S.1, oU (oU S.2.1 1 S.1 none) 0 S.1 (some y), S.2.2)) := by unfold bdE; rw [h]
theorem mrg_none (k : Int) (m : Ma) : mrg k none m = some m := rfl
theorem mrg_some (k : Int) (r m : Ma) : mrg k (some r) m = mkR k r m := rfl
theorem b2s (m : Ma) : ¬ b2 (some m).isSome = 0 := by show ¬ b2 true = 0; decide
theorem isO_80 : isO 80 5 := rfl
theorem isO_78 : isO 78 5 := rfl
set_option maxRecDepth 4000 in
theorem q_86 {d : Nat} {u : uS} {S : bSt} (hB : CB u S) (hE : CE u) : cI (d + 8) 86 [.ref 63] u (BO (bdI S) u) := by
  obtain ⟨c1, c2, c3, c4, c5, c6⟩ := id hB
  have tail : ∀ (m m' : Ma) (w : uS), S.2.1 3 S.1 = some m → m' = (if S.2.2 S.1 = true then cMp m else m) → okM m' → cMa w 80 m' → XF u w → CE w → w.1 63 0 = (S.1 : Nat) → w.1 63 13 = 0 → w.1 88 (S.1 : Nat) = 0 → (∀ l : Nat, l ≠ S.1 → w.1 88 l = u.1 88 l) → (∀ b, b ≠ 63 → b ≠ 80 → b ≠ 88 → w.1 b = u.1 b) → K_86 (d + 7) 43 [.ref 63] [] w (BO (bdI S) u) := by
    intro m m' w hs em ok' w80 wX wE w0 w13 w88 w88' wo
    have eI := bdI_some hs
    rw [← em] at eI
    have c32 := c3 2 S.1 (by omega) (Nat.le_refl _)
    have e87 : w.1 87 (S.1 : Nat) = b2 (S.2.1 2 S.1).isSome := by rw [wo 87 (by decide) (by decide) (by decide)]; exact c32.1
    have ht : ∀ l : Nat, l ≤ S.1 → w.1 88 l = b2 (tU S.2.2 S.1 false l) := by
      intro l hl
      unfold tU
      by_cases e : l = S.1
      · rw [if_pos e, e, w88]; rfl
      · rw [if_neg e, w88' l e]; exact c4 l hl
    have hb := b2_r (S.2.1 2 S.1).isSome
    refine k_86_43 (d := d + 6) ?_
    rw [w0, e87, Int.toNat_natCast]
    refine ⟨by omega, by omega, ⟨by omega, by omega⟩, ?_⟩
    cases hr : S.2.1 2 S.1 with
    | none =>
      rw [hr, mrg_none] at eI
      rw [if_pos (show b2 (none : Option Ma).isSome = 0 from rfl)]
      intro u5 e5
      have k5 : u5.1 63 0 = (S.1 : Nat) := by rw [e5, wr_ne (by decide)]; exact w0
      rw [k5, Int.toNat_natCast]
      refine ⟨by omega, by omega, fun u9 e9 u11 e11 => ?_⟩
      have m5 : cMa u5 80 m' := cMa_of w80 (by rw [e5, wr_ne (by decide)]) (by rw [e5, wr_ne (by decide)]) (by rw [e5, wr_ne (by decide)])
      have k11 : u11.1 (93 + 6 * S.1) 0 = (m'.1 : Nat) := by
        rw [e11, wr_1, if_neg (by omega), e9, wr_self]
        exact m5.1
      have h40 := ok'.2.1
      rw [k11]
      refine ⟨by omega, by omega, fun u15 e15 => ?_⟩
      rw [← k11] at e15
      obtain ⟨t1, t2⟩ := take_ok (u := u5) (a := 93 + 6 * S.1) (l := 80) ok' m5 (by omega) (by omega) (by omega) u9 e9 e11 e15
      have h15 : ∀ b, b ≠ 93 + 6 * S.1 → b ≠ 93 + 6 * S.1 + 1 → b ≠ 87 → u15.1 b = w.1 b := fun b h1 h2 h3 => by rw [t2.2 b h1 h2, e5, wr_ne h3]
      have h87 : u15.1 87 = uf (w.1 87) (S.1 : Nat) 1 := by rw [t2.2 87 (by omega) (by omega), e5, wr_uf]
      have wX15 : XF u u15 := XF_trans wX ⟨fun b hb => h15 b (by omega) (by omega) (by omega), fun b _ => by rw [t2.1, e5, wr_2]⟩
      refine ⟨wX15, CE_of wE (h15 70 (by omega) (by omega) (by decide)) (h15 78 (by omega) (by omega) (by decide)) (h15 79 (by omega) (by omega) (by decide)), Or.inl ⟨rfl, _, eI, ?_⟩⟩
      refine CB_upd hB (a0 := 2) (by omega) ok' t1 (by rw [h15 63 (by omega) (by omega) (by decide), w0, c1]) (fun b b1 b2 b3 b4 => by rw [h15 b (by omega) (by omega) (by omega)]; exact wo b (by omega) (by omega) (by omega)) _ _ (fun a l ha hl hne => Or.inl ⟨?_, ?_⟩) (oU_eq _ _ _ _) (by show u15.1 87 (S.1 : Nat) = 1; rw [h87, uf_eq]) (fun l hl => by rw [h15 88 (by omega) (by omega) (by decide)]; exact ht l hl) (Or.inl ⟨?_, ?_⟩)
      · rw [oU_ne hne, oU_ne (by omega)]
      · by_cases a2 : a = 2
        · rw [a2]
          show u15.1 87 (l : Nat) = u.1 87 (l : Nat)
          rw [h87, uf_ne (by omega), wo 87 (by decide) (by decide) (by decide)]
        · rw [h15 (85 + a) (by omega) (by omega) (by omega)]
          rw [wo (85 + a) (by omega) (by omega) (by omega)]
      · rw [oU_ne (by omega), oU_eq]
      · rw [h15 63 (by omega) (by omega) (by decide)]; exact w13
    | some r =>
      rw [hr, mrg_some] at eI
      rw [if_neg (b2s r)]
      obtain ⟨z1, z2⟩ := c32.2 r hr
      have z3 : cMa w (93 + 6 * S.1) r := cMa_of z2 (by rw [wo _ (by omega) (by omega) (by omega)]) (by rw [wo _ (by omega) (by omega) (by omega)]) (wo _ (by omega) (by omega) (by omega))
      have hO : isO (93 + 6 * S.1) 5 := isO_m S.1 2 (by omega) c2
      refine (q_69 (d := d + 1) hO isO_80 hO (by omega) (by omega) (by omega) (by omega) (by omega) z3 w80 z1 ok' wE.2).mono (Nat.le_refl _) (fun r18 u17 h => ?_)
      obtain ⟨g1, g2⟩ := h
      have wX17 : XF u u17 := XF_trans wX (XF_mk (by omega) (by omega) g1)
      have wE17 : CE u17 := CE_mk (by omega) (by omega) (by omega) wE g1
      have h17 : ∀ b, b ∉ [64, 67, 68, 69, 70, 71, 72, 73, 74, 75, 76, 77, 93 + 6 * S.1, 93 + 6 * S.1 + 1] → u17.1 b = w.1 b := g1.1
      rcases g2 with ⟨a1, y, a2, a3, a4⟩ | ⟨a1, a2⟩
      · rw [a1]
        refine ⟨Or.inr rfl, wX17, wE17, Or.inl ⟨rfl, (S.1, oU (oU S.2.1 3 S.1 none) 2 S.1 (some y), tU S.2.2 S.1 false), ?_, ?_⟩⟩
        · rw [eI, mkR_some ((MK_as (by omega) (by omega)).1 y a2)]
          rfl
        · refine CB_upd hB (a0 := 2) (by omega) a3 a4 (by rw [h17 63 (by simp only [List.mem_cons, List.not_mem_nil, or_false, not_or]; omega), w0, c1]) (fun b b1 b2 b3 b4 => by rw [h17 b (by simp only [List.mem_cons, List.not_mem_nil, or_false, not_or]; omega)]; exact wo b (by omega) (by omega) (by omega)) _ _ (fun a l ha hl hne => Or.inl ⟨?_, ?_⟩) (oU_eq _ _ _ _) ?_ (fun l hl => by rw [h17 88 (by simp only [List.mem_cons, List.not_mem_nil, or_false, not_or]; omega)]; exact ht l hl) (Or.inl ⟨?_, ?_⟩)
          · rw [oU_ne hne, oU_ne (by omega)]
          · rw [h17 (85 + a) (by simp only [List.mem_cons, List.not_mem_nil, or_false, not_or]; omega)]
            rw [wo (85 + a) (by omega) (by omega) (by omega)]
          · show u17.1 87 (S.1 : Nat) = 1
            rw [h17 87 (by simp only [List.mem_cons, List.not_mem_nil, or_false, not_or]; omega), e87, hr]
            rfl
          · rw [oU_ne (by omega), oU_eq]
          · rw [h17 63 (by simp only [List.mem_cons, List.not_mem_nil, or_false, not_or]; omega)]; exact w13
      · rw [a1]
        refine ⟨Or.inl rfl, wX17, wE17, Or.inr ⟨rfl, ?_⟩⟩
        rw [eI, mkR_none ((MK_as (by omega) (by omega)).2 a2)]
        rfl
  refine e_86 (d := d + 6) ?_
  rw [c5]
  have hb := b2_r (S.2.1 3 S.1).isSome
  refine ⟨⟨by omega, by omega⟩, ?_⟩
  cases hs : S.2.1 3 S.1 with
  | none =>
    rw [if_pos (show b2 (none : Option Ma).isSome = 0 from rfl)]
    exact ⟨XF_refl u, hE, Or.inl ⟨rfl, S, bdI_none hs, hB⟩⟩
  | some m =>
    rw [if_neg (b2s m)]
    intro u3 e3
    obtain ⟨m1, m2⟩ := c6 m hs
    have k3 : u3.1 63 0 = (S.1 : Nat) := by rw [e3, wr_1, if_neg (by decide)]; exact c1
    have k13 : u3.1 63 13 = 0 := by rw [e3, wr_self]
    have k88 : u3.1 88 = u.1 88 := by rw [e3, wr_ne (by decide)]
    have hb8 := b2_r (S.2.2 S.1)
    rw [k3, k88, c4 S.1 (Nat.le_refl _)]
    have m3 : cMa u3 80 m := cMa_of m2 (by rw [e3, wr_ne (by decide)]) (by rw [e3, wr_ne (by decide)]) (by rw [e3, wr_ne (by decide)])
    have X3 : XF u u3 := by rw [e3]; exact XF_wr (by omega) (by omega) (XF_refl u)
    have E3 : CE u3 := CE_of hE (by rw [e3, wr_ne (by decide)]) (by rw [e3, wr_ne (by decide)]) (by rw [e3, wr_ne (by decide)])
    refine ⟨by omega, by omega, ⟨by omega, by omega⟩, ?_⟩
    cases ht : S.2.2 S.1 with
    | false =>
      rw [if_pos b2f]
      refine tail m m u3 hs ?_ m1 m3 X3 E3 k3 k13 ?_ (fun l _ => by rw [k88]) (fun b h1 _ _ => by rw [e3, wr_ne h1])
      · rw [ht]; rfl
      · rw [k88, c4 S.1 (Nat.le_refl _), ht]; rfl
    | true =>
      rw [if_neg (by decide)]
      intro u9 e9
      have m9 : cMa u9 80 (cMp m) := by rw [e9]; exact turn_ok m1 m3
      have k9 : u9.1 63 0 = (S.1 : Nat) := by rw [e9, wr_ne (by decide)]; exact k3
      rw [k9]
      refine ⟨by omega, by omega, fun u13 e13 => ?_⟩
      have h13 : ∀ b, b ≠ 88 → u13.1 b = u9.1 b := fun b hb => by rw [e13, wr_ne hb]
      refine tail m (cMp m) u13 hs ?_ (cMp_ok m1) (cMa_of m9 (by rw [h13 80 (by decide)]) (by rw [h13 80 (by decide)]) (h13 81 (by decide))) ?_ ?_ (by rw [h13 63 (by decide)]; exact k9) (by rw [h13 63 (by decide), e9, wr_ne (by decide)]; exact k13) (by rw [e13, wr_self]) (fun l hl => ?_) (fun b h1 h2 h3 => ?_)
      · rw [ht]; rfl
      · rw [e13, e9]; exact XF_wr (by omega) (by omega) (XF_wr (by omega) (by omega) X3)
      · exact CE_of E3 (by rw [h13 70 (by decide), e9, wr_ne (by decide)]) (by rw [h13 78 (by decide), e9, wr_ne (by decide)]) (by rw [h13 79 (by decide), e9, wr_ne (by decide)])
      · rw [e13, wr_uf, uf_ne (by omega), e9, wr_ne (by decide), k88]
      · rw [h13 b h3, e9, wr_ne h2, e3, wr_ne h1]
set_option maxRecDepth 4000 in
theorem q_89 {d : Nat} {u : uS} {S : bSt} (hB : CB u S) (hE : CE u) : cI (d + 8) 89 [.ref 63] u (BO (bdR S) u) := by
  obtain ⟨c1, c2, c3, c4, c5, c6⟩ := id hB
  have c31 := c3 1 S.1 (by omega) (Nat.le_refl _)
  have c32 := c3 2 S.1 (by omega) (Nat.le_refl _)
  have tail : ∀ (s0 : Nat) (m : Ma), isO s0 5 → 77 < s0 → s0 ≤ 183 → (s0 = 78 ∨ s0 = 93 + 6 * S.1) → m = (S.2.1 2 S.1).getD eMp → okM m → cMa u s0 m → K_89 (d + 7) 28 [.ref 63, .retAddr 0] [.ref s0] u (BO (bdR S) u) := by
    intro s0 m hO h77 h183 hs0 em okm hm
    have eR : bdR S = (mrg 0 (S.2.1 1 S.1) m).map (fun y => (S.1, oU (oU S.2.1 2 S.1 none) 1 S.1 (some y), S.2.2)) := by unfold bdR; rw [em]
    refine k_89_28 (d := d + 6) hO ?_
    rw [c1]
    refine ⟨by omega, by omega, fun u3 e3 => ?_⟩
    have h3 : ∀ b, b ≠ 87 → u3.1 b = u.1 b := fun b hb => by rw [e3, wr_ne hb]
    have h387 : u3.1 87 = uf (u.1 87) (S.1 : Nat) 0 := by rw [e3, wr_uf]
    have X3 : XF u u3 := by rw [e3]; exact XF_wr (by omega) (by omega) (XF_refl u)
    have E3 : CE u3 := CE_of hE (h3 70 (by decide)) (h3 78 (by decide)) (h3 79 (by decide))
    have m3 : cMa u3 s0 m := cMa_of hm (by rw [h3 s0 (by omega)]) (by rw [h3 s0 (by omega)]) (h3 _ (by omega))
    rw [h3 63 (by decide), h3 86 (by decide), c1]
    have e86 : u.1 86 (S.1 : Nat) = b2 (S.2.1 1 S.1).isSome := c31.1
    rw [e86]
    have hb := b2_r (S.2.1 1 S.1).isSome
    refine ⟨by omega, by omega, ⟨by omega, by omega⟩, ?_⟩
    cases hr : S.2.1 1 S.1 with
    | none =>
      rw [hr, mrg_none] at eR
      rw [if_pos (show b2 (none : Option Ma).isSome = 0 from rfl)]
      intro u9 e9
      have k9 : u9.1 63 0 = (S.1 : Nat) := by rw [e9, wr_ne (by decide), h3 63 (by decide)]; exact c1
      rw [k9, Int.toNat_natCast]
      refine ⟨by omega, by omega, fun u13 e13 u15 e15 => ?_⟩
      have m9 : cMa u9 s0 m := cMa_of m3 (by rw [e9, wr_ne (by omega)]) (by rw [e9, wr_ne (by omega)]) (by rw [e9, wr_ne (by omega)])
      have k15 : u15.1 (91 + 6 * S.1) 0 = (m.1 : Nat) := by
        rw [e15, wr_1, if_neg (by omega), e13, wr_self]
        exact m9.1
      have h40 := okm.2.1
      rw [k15]
      refine ⟨by omega, by omega, fun u19 e19 => ?_⟩
      rw [← k15] at e19
      obtain ⟨t1, t2⟩ := take_ok (u := u9) (a := 91 + 6 * S.1) (l := s0) okm m9 (by omega) (by omega) (by omega) u13 e13 e15 e19
      have h19 : ∀ b, b ≠ 91 + 6 * S.1 → b ≠ 91 + 6 * S.1 + 1 → b ≠ 86 → b ≠ 87 → u19.1 b = u.1 b := fun b h1 h2 h4 h5 => by rw [t2.2 b h1 h2, e9, wr_ne h4, h3 b h5]
      have g86 : u19.1 86 = uf (u.1 86) (S.1 : Nat) 1 := by rw [t2.2 86 (by omega) (by omega), e9, wr_uf, h3 86 (by decide)]
      have g87 : u19.1 87 = uf (u.1 87) (S.1 : Nat) 0 := by rw [t2.2 87 (by omega) (by omega), e9, wr_ne (by decide), h387]
      refine ⟨⟨fun b hb => h19 b (by omega) (by omega) (by omega) (by omega), fun b _ => by rw [t2.1, e9, wr_2, e3, wr_2]⟩, CE_of hE (h19 70 (by omega) (by omega) (by decide) (by decide)) (h19 78 (by omega) (by omega) (by decide) (by decide)) (h19 79 (by omega) (by omega) (by decide) (by decide)), Or.inl ⟨rfl, _, eR, ?_⟩⟩
      refine CB_upd hB (a0 := 1) (by omega) okm t1 (by rw [h19 63 (by omega) (by omega) (by decide) (by decide)]) (fun b b1 b2 b3 b4 => h19 b (by omega) (by omega) (by omega) (by omega)) _ _ (fun a l ha hl hne => ?_) (oU_eq _ _ _ _) (by show u19.1 86 (S.1 : Nat) = 1; rw [g86, uf_eq]) (fun l hl => by rw [h19 88 (by omega) (by omega) (by decide) (by decide)]; exact c4 l hl) (Or.inr ⟨by rw [oU_ne (by omega), oU_ne (by omega)], by rw [h19 63 (by omega) (by omega) (by decide) (by decide)], h19 80 (by omega) (by omega) (by decide) (by decide), h19 81 (by omega) (by omega) (by decide) (by decide)⟩)
      rw [oU_ne hne]
      by_cases a2 : a = 2 ∧ l = S.1
      · right
        rw [a2.1, a2.2, oU_eq]
        refine ⟨rfl, ?_⟩
        show u19.1 87 (S.1 : Nat) = 0
        rw [g87, uf_eq]
      · left
        rw [oU_ne a2]
        refine ⟨rfl, ?_⟩
        by_cases b1 : a = 1
        · rw [b1] at hne ⊢
          show u19.1 86 (l : Nat) = u.1 86 (l : Nat)
          rw [g86, uf_ne (by omega)]
        · by_cases b2' : a = 2
          · rw [b2'] at a2 ⊢
            show u19.1 87 (l : Nat) = u.1 87 (l : Nat)
            rw [g87, uf_ne (by omega)]
          · rw [h19 (85 + a) (by omega) (by omega) (by omega) (by omega)]
    | some r =>
      rw [hr, mrg_some] at eR
      rw [if_neg (b2s r), Int.toNat_natCast]
      obtain ⟨z1, z2⟩ := c31.2 r hr
      have z3 : cMa u3 (91 + 6 * S.1) r := cMa_of z2 (by rw [h3 _ (by omega)]) (by rw [h3 _ (by omega)]) (h3 _ (by omega))
      have hO1 : isO (91 + 6 * S.1) 5 := isO_m S.1 1 (by omega) c2
      refine (q_69 (d := d + 1) hO1 hO hO1 (by omega) h77 (by omega) (by omega) (by omega) z3 m3 z1 okm E3.2).mono (Nat.le_refl _) (fun r18 u17 h => ?_)
      obtain ⟨g1, g2⟩ := h
      have X17 : XF u u17 := XF_trans X3 (XF_mk (by omega) (by omega) g1)
      have E17 : CE u17 := CE_mk (by omega) (by omega) (by omega) E3 g1
      have h17 : ∀ b, b ∉ [64, 67, 68, 69, 70, 71, 72, 73, 74, 75, 76, 77, 91 + 6 * S.1, 91 + 6 * S.1 + 1] → u17.1 b = u3.1 b := g1.1
      rcases g2 with ⟨a1, y, a2, a3, a4⟩ | ⟨a1, a2⟩
      · rw [a1]
        refine ⟨Or.inr rfl, X17, E17, Or.inl ⟨rfl, (S.1, oU (oU S.2.1 2 S.1 none) 1 S.1 (some y), S.2.2), ?_, ?_⟩⟩
        · rw [eR, mkR_some ((MK_as (by omega) (by omega)).1 y a2)]
          rfl
        · have hh : ∀ b, b ∉ [64, 67, 68, 69, 70, 71, 72, 73, 74, 75, 76, 77, 87, 91 + 6 * S.1, 91 + 6 * S.1 + 1] → u17.1 b = u.1 b := fun b hb => by
            simp only [List.mem_cons, List.not_mem_nil, or_false, not_or] at hb
            rw [h17 b (by simp only [List.mem_cons, List.not_mem_nil, or_false, not_or]; omega), h3 b (by omega)]
          have g87 : u17.1 87 = uf (u.1 87) (S.1 : Nat) 0 := by rw [h17 87 (by simp only [List.mem_cons, List.not_mem_nil, or_false, not_or]; omega), h387]
          refine CB_upd hB (a0 := 1) (by omega) a3 a4 (by rw [hh 63 (by simp only [List.mem_cons, List.not_mem_nil, or_false, not_or]; omega)]) (fun b b1 b2 b3 b4 => hh b (by simp only [List.mem_cons, List.not_mem_nil, or_false, not_or]; omega)) _ _ (fun a l ha hl hne => ?_) (oU_eq _ _ _ _) ?_ (fun l hl => by rw [hh 88 (by simp only [List.mem_cons, List.not_mem_nil, or_false, not_or]; omega)]; exact c4 l hl) (Or.inr ⟨by rw [oU_ne (by omega), oU_ne (by omega)], by rw [hh 63 (by simp only [List.mem_cons, List.not_mem_nil, or_false, not_or]; omega)], hh 80 (by simp only [List.mem_cons, List.not_mem_nil, or_false, not_or]; omega), hh 81 (by simp only [List.mem_cons, List.not_mem_nil, or_false, not_or]; omega)⟩)
          · rw [oU_ne hne]
            by_cases a2 : a = 2 ∧ l = S.1
            · right
              rw [a2.1, a2.2, oU_eq]
              refine ⟨rfl, ?_⟩
              show u17.1 87 (S.1 : Nat) = 0
              rw [g87, uf_eq]
            · left
              rw [oU_ne a2]
              refine ⟨rfl, ?_⟩
              by_cases b2' : a = 2
              · rw [b2'] at a2 ⊢
                show u17.1 87 (l : Nat) = u.1 87 (l : Nat)
                rw [g87, uf_ne (by omega)]
              · rw [hh (85 + a) (by simp only [List.mem_cons, List.not_mem_nil, or_false, not_or]; omega)]
          · show u17.1 86 (S.1 : Nat) = 1
            rw [hh 86 (by simp only [List.mem_cons, List.not_mem_nil, or_false, not_or]; omega), e86, hr]
            rfl
      · rw [a1]
        refine ⟨Or.inl rfl, X17, E17, Or.inr ⟨rfl, ?_⟩⟩
        rw [eR, mkR_none ((MK_as (by omega) (by omega)).2 a2)]
        rfl
  have e87 : u.1 87 (S.1 : Nat) = b2 (S.2.1 2 S.1).isSome := c32.1
  have hb := b2_r (S.2.1 2 S.1).isSome
  refine e_89 (d := d + 6) ?_
  rw [c1, e87, Int.toNat_natCast]
  refine ⟨by omega, by omega, ⟨by omega, by omega⟩, ?_⟩
  cases hr : S.2.1 2 S.1 with
  | none =>
    rw [if_pos (show b2 (none : Option Ma).isSome = 0 from rfl)]
    exact tail 78 eMp isO_78 (by omega) (by omega) (Or.inl rfl) (by rw [hr]; rfl) eMp_ok hE.1
  | some r =>
    rw [if_neg (b2s r)]
    obtain ⟨z1, z2⟩ := c32.2 r hr
    exact tail (93 + 6 * S.1) r (isO_m S.1 2 (by omega) c2) (by omega) (by omega) (Or.inr rfl) (by rw [hr]; rfl) z1 z2
set_option maxRecDepth 4000 in
theorem q_90 {d : Nat} {u : uS} {S : bSt} {m : Ma} (hB : CB u S) (hE : CE u) (hs : S.2.1 1 S.1 = some m) : cI (d + 8) 90 [.ref 63] u (BO (bdE S) u) := by
  obtain ⟨c1, c2, c3, c4, c5, c6⟩ := id hB
  have c30 := c3 0 S.1 (by omega) (Nat.le_refl _)
  have c31 := c3 1 S.1 (by omega) (Nat.le_refl _)
  have eE := bdE_some hs
  obtain ⟨okm, hm⟩ := c31.2 m hs
  have hm : cMa u (91 + 6 * S.1) m := hm
  have hO1 : isO (91 + 6 * S.1) 5 := isO_m S.1 1 (by omega) c2
  have hO0 : isO (89 + 6 * S.1) 5 := isO_m S.1 0 (by omega) c2
  refine e_90 (d := d + 6) ?_
  rw [c1]
  refine ⟨by omega, by omega, fun u3 e3 => ?_⟩
  have h3 : ∀ b, b ≠ 86 → u3.1 b = u.1 b := fun b hb => by rw [e3, wr_ne hb]
  have h386 : u3.1 86 = uf (u.1 86) (S.1 : Nat) 0 := by rw [e3, wr_uf]
  have X3 : XF u u3 := by rw [e3]; exact XF_wr (by omega) (by omega) (XF_refl u)
  have E3 : CE u3 := CE_of hE (h3 70 (by decide)) (h3 78 (by decide)) (h3 79 (by decide))
  have m3 : cMa u3 (91 + 6 * S.1) m := cMa_of hm (by rw [h3 _ (by omega)]) (by rw [h3 _ (by omega)]) (h3 _ (by omega))
  rw [h3 63 (by decide), h3 85 (by decide), c1]
  have e85 : u.1 85 (S.1 : Nat) = b2 (S.2.1 0 S.1).isSome := c30.1
  rw [e85]
  have hb := b2_r (S.2.1 0 S.1).isSome
  refine ⟨by omega, by omega, ⟨by omega, by omega⟩, ?_⟩
  cases hr : S.2.1 0 S.1 with
  | none =>
    rw [hr, mrg_none] at eE
    rw [if_pos (show b2 (none : Option Ma).isSome = 0 from rfl)]
    intro u9 e9
    have k9 : u9.1 63 0 = (S.1 : Nat) := by rw [e9, wr_ne (by decide), h3 63 (by decide)]; exact c1
    rw [k9, Int.toNat_natCast]
    refine ⟨by omega, by omega, fun u13 e13 u15 e15 => ?_⟩
    have m9 : cMa u9 (91 + 6 * S.1) m := cMa_of m3 (by rw [e9, wr_ne (by omega)]) (by rw [e9, wr_ne (by omega)]) (by rw [e9, wr_ne (by omega)])
    have k15 : u15.1 (89 + 6 * S.1) 0 = (m.1 : Nat) := by
      rw [e15, wr_1, if_neg (by omega), e13, wr_self]
      exact m9.1
    have h40 := okm.2.1
    rw [k15]
    refine ⟨by omega, by omega, fun u19 e19 => ?_⟩
    rw [← k15] at e19
    obtain ⟨t1, t2⟩ := take_ok (u := u9) (a := 89 + 6 * S.1) (l := 91 + 6 * S.1) okm m9 (by omega) (by omega) (by omega) u13 e13 e15 e19
    have h19 : ∀ b, b ≠ 89 + 6 * S.1 → b ≠ 89 + 6 * S.1 + 1 → b ≠ 85 → b ≠ 86 → u19.1 b = u.1 b := fun b h1 h2 h4 h5 => by rw [t2.2 b h1 h2, e9, wr_ne h4, h3 b h5]
    have g85 : u19.1 85 = uf (u.1 85) (S.1 : Nat) 1 := by rw [t2.2 85 (by omega) (by omega), e9, wr_uf, h3 85 (by decide)]
    have g86 : u19.1 86 = uf (u.1 86) (S.1 : Nat) 0 := by rw [t2.2 86 (by omega) (by omega), e9, wr_ne (by decide), h386]
    refine ⟨⟨fun b hb => h19 b (by omega) (by omega) (by omega) (by omega), fun b _ => by rw [t2.1, e9, wr_2, e3, wr_2]⟩, CE_of hE (h19 70 (by omega) (by omega) (by decide) (by decide)) (h19 78 (by omega) (by omega) (by decide) (by decide)) (h19 79 (by omega) (by omega) (by decide) (by decide)), Or.inl ⟨rfl, _, eE, ?_⟩⟩
    refine CB_upd hB (a0 := 0) (by omega) okm t1 (by rw [h19 63 (by omega) (by omega) (by decide) (by decide)]) (fun b b1 b2 b3 b4 => h19 b (by omega) (by omega) (by omega) (by omega)) _ _ (fun a l ha hl hne => ?_) (oU_eq _ _ _ _) (by show u19.1 85 (S.1 : Nat) = 1; rw [g85, uf_eq]) (fun l hl => by rw [h19 88 (by omega) (by omega) (by decide) (by decide)]; exact c4 l hl) (Or.inr ⟨by rw [oU_ne (by omega), oU_ne (by omega)], by rw [h19 63 (by omega) (by omega) (by decide) (by decide)], h19 80 (by omega) (by omega) (by decide) (by decide), h19 81 (by omega) (by omega) (by decide) (by decide)⟩)
    rw [oU_ne hne]
    by_cases a2 : a = 1 ∧ l = S.1
    · right
      rw [a2.1, a2.2, oU_eq]
      refine ⟨rfl, ?_⟩
      show u19.1 86 (S.1 : Nat) = 0
      rw [g86, uf_eq]
    · left
      rw [oU_ne a2]
      refine ⟨rfl, ?_⟩
      by_cases b1 : a = 0
      · rw [b1] at hne ⊢
        show u19.1 85 (l : Nat) = u.1 85 (l : Nat)
        rw [g85, uf_ne (by omega)]
      · by_cases b2' : a = 1
        · rw [b2'] at a2 ⊢
          show u19.1 86 (l : Nat) = u.1 86 (l : Nat)
          rw [g86, uf_ne (by omega)]
        · rw [h19 (85 + a) (by omega) (by omega) (by omega) (by omega)]
  | some r =>
    rw [hr, mrg_some] at eE
    rw [if_neg (b2s r), Int.toNat_natCast]
    obtain ⟨z1, z2⟩ := c30.2 r hr
    have z3 : cMa u3 (89 + 6 * S.1) r := cMa_of z2 (by rw [h3 _ (by omega)]) (by rw [h3 _ (by omega)]) (h3 _ (by omega))
    refine (q_69 (d := d + 1) hO0 hO1 hO0 (by omega) (by omega) (by omega) (by omega) (by omega) z3 m3 z1 okm E3.2).mono (Nat.le_refl _) (fun r18 u17 h => ?_)
    obtain ⟨g1, g2⟩ := h
    have X17 : XF u u17 := XF_trans X3 (XF_mk (by omega) (by omega) g1)
    have E17 : CE u17 := CE_mk (by omega) (by omega) (by omega) E3 g1
    have h17 : ∀ b, b ∉ [64, 67, 68, 69, 70, 71, 72, 73, 74, 75, 76, 77, 89 + 6 * S.1, 89 + 6 * S.1 + 1] → u17.1 b = u3.1 b := g1.1
    rcases g2 with ⟨a1, y, a2, a3, a4⟩ | ⟨a1, a2⟩
    · rw [a1]
      refine ⟨Or.inr rfl, X17, E17, Or.inl ⟨rfl, (S.1, oU (oU S.2.1 1 S.1 none) 0 S.1 (some y), S.2.2), ?_, ?_⟩⟩
      · rw [eE, mkR_some ((MK_as (by omega) (by omega)).1 y a2)]
        rfl
      · have hh : ∀ b, b ∉ [64, 67, 68, 69, 70, 71, 72, 73, 74, 75, 76, 77, 86, 89 + 6 * S.1, 89 + 6 * S.1 + 1] → u17.1 b = u.1 b := fun b hb => by
          simp only [List.mem_cons, List.not_mem_nil, or_false, not_or] at hb
          rw [h17 b (by simp only [List.mem_cons, List.not_mem_nil, or_false, not_or]; omega), h3 b (by omega)]
        have g86 : u17.1 86 = uf (u.1 86) (S.1 : Nat) 0 := by rw [h17 86 (by simp only [List.mem_cons, List.not_mem_nil, or_false, not_or]; omega), h386]
        refine CB_upd hB (a0 := 0) (by omega) a3 a4 (by rw [hh 63 (by simp only [List.mem_cons, List.not_mem_nil, or_false, not_or]; omega)]) (fun b b1 b2 b3 b4 => hh b (by simp only [List.mem_cons, List.not_mem_nil, or_false, not_or]; omega)) _ _ (fun a l ha hl hne => ?_) (oU_eq _ _ _ _) ?_ (fun l hl => by rw [hh 88 (by simp only [List.mem_cons, List.not_mem_nil, or_false, not_or]; omega)]; exact c4 l hl) (Or.inr ⟨by rw [oU_ne (by omega), oU_ne (by omega)], by rw [hh 63 (by simp only [List.mem_cons, List.not_mem_nil, or_false, not_or]; omega)], hh 80 (by simp only [List.mem_cons, List.not_mem_nil, or_false, not_or]; omega), hh 81 (by simp only [List.mem_cons, List.not_mem_nil, or_false, not_or]; omega)⟩)
        · rw [oU_ne hne]
          by_cases a2 : a = 1 ∧ l = S.1
          · right
            rw [a2.1, a2.2, oU_eq]
            refine ⟨rfl, ?_⟩
            show u17.1 86 (S.1 : Nat) = 0
            rw [g86, uf_eq]
          · left
            rw [oU_ne a2]
            refine ⟨rfl, ?_⟩
            by_cases b2' : a = 1
            · rw [b2'] at a2 ⊢
              show u17.1 86 (l : Nat) = u.1 86 (l : Nat)
              rw [g86, uf_ne (by omega)]
            · rw [hh (85 + a) (by simp only [List.mem_cons, List.not_mem_nil, or_false, not_or]; omega)]
        · show u17.1 85 (S.1 : Nat) = 1
          rw [hh 85 (by simp only [List.mem_cons, List.not_mem_nil, or_false, not_or]; omega), e85, hr]
          rfl
    · rw [a1]
      refine ⟨Or.inl rfl, X17, E17, Or.inr ⟨rfl, ?_⟩⟩
      rw [eE, mkR_none ((MK_as (by omega) (by omega)).2 a2)]
      rfl
