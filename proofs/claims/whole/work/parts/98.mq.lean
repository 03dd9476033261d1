/-! Both sides find the same fault -/
set_option maxRecDepth 4000 in
theorem q_64 {d n : Nat} {f : Int → Int} {u : uS} (hn : n ≤ 300) (hf : ∀ j : Nat, j < n → rI (f j)) (ht : txt u f n) : cI (d + 4) 64 [.ref 63, .ref 1] u (fun r u' => mcF u u' ∧ auF f n (-1) r) := by
  obtain ⟨t5, t3, tt⟩ := ht
  have loop : ∀ (m j : Nat) (v : uS) (s : aSt), j + m = n → mcF u v → mcS v s → auR f j = some s → K_64 (d + 3) 17 [.ref 63, .ref 1, iV (cnt f j)] [] v (fun r u' => mcF u u' ∧ auF f n (-1) r) := by
    intro m
    induction m with
    | zero =>
      intro j v s hj hm hs ha
      have ej : j = n := by omega
      rw [ej] at ha ⊢
      have hc := cnt_r f n
      have e5 : v.1 1 5 = cnt f n := by rw [hm.2 1 5 (fun e => absurd e (by decide))]; exact t5
      have e3 : v.1 1 3 = n := by rw [hm.2 1 3 (fun e => absurd e (by decide))]; exact t3
      have h15 := auR_15 n ha
      have hb := b2_r s.2.2
      obtain ⟨s0, s1, s2⟩ := hs
      refine k_64_17 ⟨⟨by omega, by omega⟩, ⟨by omega, by omega⟩, ?_⟩
      rw [if_neg (by omega), s0, s2]
      refine ⟨⟨by omega, by omega⟩, ?_⟩
      by_cases c : (0 : Int) < (s.1 : Nat)
      · rw [if_pos c, if_neg (by omega), e3]
        exact ⟨hm, Or.inr (Or.inl ⟨s, ha, Or.inl (by omega), rfl⟩)⟩
      · rw [if_neg c]
        refine ⟨⟨by omega, by omega⟩, ?_⟩
        cases hbn : s.2.2 with
        | false =>
          rw [if_pos b2f]
          refine ⟨hm, Or.inr (Or.inr ⟨s.2.1, ?_, rfl⟩)⟩
          rw [ha, ← hbn, show (0 : Nat) = s.1 by omega]
        | true =>
          rw [if_neg (by decide), if_neg (by omega), e3]
          exact ⟨hm, Or.inr (Or.inl ⟨s, ha, Or.inr hbn, rfl⟩)⟩
    | succ m ih =>
      intro j v s hj hm hs ha
      have hc := cnt_r f j
      have hcs := cnt_s f j
      have h15 := auR_15 j ha
      by_cases c32 : f j = 32
      · have h1 : auR f (j + 1) = some s := by rw [auR_s ha]; unfold auS; rw [if_pos c32]
        rw [if_pos c32] at hcs
        have h0 := ih (j + 1) v s (by omega) hm hs h1
        rw [hcs] at h0
        exact h0
      · have hlt := cnt_lt f (show j < n by omega) c32
        have hcn := cnt_r f n
        rw [if_neg c32] at hcs
        have e5 : v.1 1 5 = cnt f n := by rw [hm.2 1 5 (fun e => absurd e (by decide))]; exact t5
        have e3 : v.1 3 (cnt f j) = f j := by rw [hm.2 3 _ (fun e => absurd e (by decide))]; exact (tt j (by omega) c32).1
        refine k_64_17 ⟨⟨by omega, by omega⟩, ⟨by omega, by omega⟩, ?_⟩
        rw [if_pos (by omega), e3]
        refine ⟨by omega, by omega, ?_⟩
        refine (p_65 (d := d) (hf j (by omega)) c32 h15 hs).mono (Nat.le_refl _) (fun r w hw => ?_)
        obtain ⟨w1, w2⟩ := hw
        have hmw := mcF_trans hm w1
        rcases w2 with ⟨a1, s', a2, a3⟩ | ⟨a1, a2⟩
        · rw [a1]
          refine ⟨⟨by omega, by omega⟩, ?_⟩
          rw [if_neg (by decide)]
          have h0 := ih (j + 1) w s' (by omega) hmw a3 (by rw [auR_s ha]; exact a2)
          rw [hcs] at h0
          exact h0
        · have e5' : w.1 1 5 = cnt f n := by rw [hmw.2 1 5 (fun e => absurd e (by decide))]; exact t5
          have e4 : w.1 4 (cnt f j) = j := by rw [hmw.2 4 _ (fun e => absurd e (by decide))]; exact (tt j (by omega) c32).2
          rw [a1]
          refine ⟨⟨by omega, by omega⟩, ?_⟩
          rw [if_pos rfl]
          refine ⟨⟨by omega, by omega⟩, ?_⟩
          rw [if_pos (by omega), e4]
          exact ⟨hmw, Or.inl ⟨j, s, by omega, ha, a2, rfl⟩⟩
  refine e_64 (d := d + 2) (fun u1 e1 u3 e3 u5 e5 => ?_)
  have m5 : mcF u u5 := by rw [e5, e3, e1]; exact mcF_wr (by omega) (mcF_wr (by omega) (mcF_wr (by omega) (mcF_refl u)))
  have s5 : mcS u5 (0, false, false) := by
    refine ⟨?_, ?_, ?_⟩
    · rw [e5, wr_1, if_neg (by decide), e3, wr_1, if_neg (by decide), e1, wr_self]; rfl
    · rw [e5, wr_1, if_neg (by decide), e3, wr_self]; rfl
    · rw [e5, wr_self]; rfl
  exact loop n 0 u5 _ (by omega) m5 s5 rfl
set_option maxRecDepth 4000 in
theorem q_236 {d n : Nat} {u : uS} (hn : n ≤ 300) (h1 : u.1 271 1 = n) (hf : ∀ j : Nat, j < n → rI (u.1 272 j)) : cI (d + 3) 236 [.ref 271] u (fun r u' => u' = u ∧ auF (u.1 272) n (-2) r) := by
  have loop : ∀ (m j : Nat) (s : aSt), j + m = n → auR (u.1 272) j = some s → K_236 (d + 2) 9 [.ref 271, iV (s.1 : Nat), iV (b2 s.2.2), iV (b2 s.2.1), iV (j : Nat), .retAddr 0, .retAddr 0] [] u (fun r u' => u' = u ∧ auF (u.1 272) n (-2) r) := by
    intro m
    induction m with
    | zero =>
      intro j s hj ha
      have ej : j = n := by omega
      rw [ej] at ha
      have h15 := auR_15 n ha
      have hb := b2_r s.2.2
      refine k_236_9 ⟨⟨by omega, by omega⟩, ⟨by omega, by omega⟩, ?_⟩
      rw [if_neg (by omega), h1]
      refine ⟨⟨by omega, by omega⟩, ?_⟩
      by_cases c : (0 : Int) < (s.1 : Nat)
      · rw [if_pos c]
        exact ⟨rfl, Or.inr (Or.inl ⟨s, ha, Or.inl (by omega), rfl⟩)⟩
      · rw [if_neg c]
        refine ⟨⟨by omega, by omega⟩, ?_⟩
        cases hbn : s.2.2 with
        | false =>
          rw [if_pos b2f]
          refine ⟨rfl, Or.inr (Or.inr ⟨s.2.1, ?_, rfl⟩)⟩
          rw [ha, ← hbn, show (0 : Nat) = s.1 by omega]
        | true =>
          rw [if_neg (by decide)]
          exact ⟨rfl, Or.inr (Or.inl ⟨s, ha, Or.inr hbn, rfl⟩)⟩
    | succ m ih =>
      intro j s hj ha
      have h15 := auR_15 j ha
      have hb := b2_r s.2.2
      have hb1 := b2_r s.2.1
      have hrI := hf j (by omega)
      have hs := auR_s ha
      -- the fault is here, or one goes on
      have bad : auS s (u.1 272 j) = none → (u = u ∧ auF (u.1 272) n (-2) (j : Nat)) := fun h => ⟨rfl, Or.inl ⟨j, s, by omega, ha, h, rfl⟩⟩
      have next : ∀ (s' : aSt), auS s (u.1 272 j) = some s' → K_236 (d + 2) 9 [.ref 271, iV (s'.1 : Nat), iV (b2 s'.2.2), iV (b2 s'.2.1), iV ((j : Int) + 1), .retAddr 0, .retAddr 0] [] u (fun r u' => u' = u ∧ auF (u.1 272) n (-2) r) := fun s' h => ih (j + 1) s' (by omega) (by rw [hs, h])
      refine k_236_9 ⟨⟨by omega, by omega⟩, ⟨by omega, by omega⟩, ?_⟩
      rw [if_pos (by omega)]
      refine ⟨by omega, by omega, hrI, ?_⟩
      generalize hc : u.1 272 j = c at hrI bad next
      by_cases c32 : c = 32
      · rw [if_pos c32]
        exact next s (by unfold auS; rw [if_pos c32])
      · rw [if_neg c32]
        -- atoms
        have atom : atm c → K_236 (d + 2) 9 [.ref 271, iV (s.1 : Nat), iV 0, iV 1, iV ((j : Int) + 1), .retAddr 0, .retAddr 0] [] u (fun r u' => u' = u ∧ auF (u.1 272) n (-2) r) := fun hh => next (s.1, true, false) (by
          unfold auS
          have := hh
          unfold atm at this
          rw [if_neg c32, if_neg (by omega), if_neg (by omega), if_neg (by omega), if_neg (by omega), if_neg (by omega), if_pos hh])
        by_cases c97 : c < 97
        · rw [if_pos c97]
          by_cases d1 : c = 46
          · rw [if_pos d1]; exact atom (Or.inl d1)
          · rw [if_neg d1]
            by_cases d2 : c = 48
            · rw [if_pos d2]; exact atom (Or.inr (Or.inl d2))
            · rw [if_neg d2]
              by_cases d3 : c = 33
              · rw [if_pos d3]
                refine k_236_88 ⟨hrI, ?_⟩
                rw [if_neg (by omega), if_pos d3]
                refine ⟨⟨by omega, by omega⟩, ?_⟩
                rw [if_neg (by decide), show ((s.1 : Nat) : Int) + 0 = (s.1 : Nat) by omega]
                exact next (s.1, false, true) (by unfold auS; rw [if_neg c32, if_neg (by omega), if_neg (by omega), if_neg (by omega), if_neg (by omega), if_pos d3])
              · rw [if_neg d3]
                by_cases d4 : c = 40
                · have ea : auS s c = if s.1 < 15 then some (s.1 + 1, false, false) else none := by
                    unfold auS
                    rw [if_neg c32, if_neg (by omega), if_pos d4]
                  rw [if_pos d4]
                  refine ⟨⟨by omega, by omega⟩, ?_⟩
                  by_cases d5 : ((s.1 : Nat) : Int) < 15
                  · rw [if_pos d5]
                    refine k_236_88 ⟨hrI, ?_⟩
                    rw [if_pos d4, if_neg d3]
                    refine ⟨⟨by omega, by omega⟩, ?_⟩
                    rw [if_neg (by decide)]
                    exact next (s.1 + 1, false, false) (by rw [ea, if_pos (by omega)])
                  · rw [if_neg d5]
                    refine k_236_88 ⟨hrI, ?_⟩
                    rw [if_pos d4, if_neg d3]
                    refine ⟨⟨by omega, by omega⟩, ?_⟩
                    rw [if_pos rfl]
                    exact bad (by rw [ea, if_neg (by omega)])
                · rw [if_neg d4]
                  have often : (c = 42 ∨ c = 43 ∨ c = 63) → (rI (b2 s.2.1)) ∧ (if b2 s.2.1 = 0 then (u = u ∧ auF (u.1 272) n (-2) (j : Nat)) else (K_236 (d + 2) 9 [.ref 271, iV (s.1 : Nat), iV (b2 s.2.2), iV (b2 s.2.1), iV ((j : Int) + 1), .retAddr 0, .retAddr 0] [] u (fun r u' => u' = u ∧ auF (u.1 272) n (-2) r))) := by
                    intro hh
                    have ea : auS s c = if s.2.1 = true then some s else none := by
                      unfold auS
                      rw [if_neg c32, if_pos hh]
                    refine ⟨⟨by omega, by omega⟩, ?_⟩
                    cases hba : s.2.1 with
                    | false =>
                      rw [if_pos b2f]
                      exact bad (by rw [ea, if_neg (by rw [hba]; decide)])
                    | true =>
                      rw [if_neg (by decide), ← hba]
                      exact next s (by rw [ea, if_pos hba])
                  by_cases e1 : c = 42
                  · rw [if_pos e1]; exact often (Or.inl e1)
                  · rw [if_neg e1]
                    by_cases e2 : c = 43
                    · rw [if_pos e2]; exact often (Or.inr (Or.inl e2))
                    · rw [if_neg e2]
                      by_cases e3 : c = 63
                      · rw [if_pos e3]; exact often (Or.inr (Or.inr e3))
                      · rw [if_neg e3]
                        refine ⟨⟨by omega, by omega⟩, ?_⟩
                        have ea : auS s c = if c = 41 then (if 0 < s.1 ∧ s.2.2 = false then some (s.1 - 1, true, false) else none) else if c = 124 ∨ c = 38 then (if s.2.2 = false then some (s.1, false, false) else none) else none := by
                          unfold auS
                          rw [if_neg c32, if_neg (by omega), if_neg d4]
                          by_cases g1 : c = 41
                          · rw [if_pos g1, if_pos g1]
                          · rw [if_neg g1, if_neg g1]
                            by_cases g2 : c = 124 ∨ c = 38
                            · rw [if_pos g2, if_pos g2]
                            · rw [if_neg g2, if_neg g2, if_neg d3, if_neg (by unfold atm; omega)]
                        -- what is behind the three signs
                        have no : auS s c = none → K_236 (d + 2) 171 [.ref 271, iV (s.1 : Nat), iV (b2 s.2.2), .retAddr 0, iV (j : Nat), iV c, .retAddr 0] [iV 0] u (fun r u' => u' = u ∧ auF (u.1 272) n (-2) r) := by
                          intro h
                          refine k_236_171 ⟨hrI, ?_⟩
                          by_cases g1 : c = 41
                          · rw [if_pos g1]
                            refine ⟨⟨by omega, by omega⟩, ?_⟩
                            rw [if_pos rfl]
                            exact bad h
                          · rw [if_neg g1]
                            refine ⟨⟨by omega, by omega⟩, ?_⟩
                            rw [if_pos rfl]
                            exact bad h
                        cases hbn : s.2.2 with
                        | true =>
                          rw [if_neg (by decide), ← hbn]
                          refine no ?_
                          rw [ea, hbn]
                          by_cases g1 : c = 41
                          · rw [if_pos g1, if_neg (fun hh => absurd hh.2 (by decide))]
                          · rw [if_neg g1]
                            by_cases g2 : c = 124 ∨ c = 38
                            · rw [if_pos g2, if_neg (by decide)]
                            · rw [if_neg g2]
                        | false =>
                          rw [if_pos b2f]
                          rw [hbn] at ea no
                          have bar : (c = 124 ∨ c = 38) → K_236 (d + 2) 171 [.ref 271, iV (s.1 : Nat), iV (b2 false), .retAddr 0, iV (j : Nat), iV c, .retAddr 0] [iV 1] u (fun r u' => u' = u ∧ auF (u.1 272) n (-2) r) := by
                            intro hh
                            refine k_236_171 ⟨hrI, ?_⟩
                            rw [if_neg (by omega)]
                            refine ⟨⟨by omega, by omega⟩, ?_⟩
                            rw [if_neg (by decide), show ((s.1 : Nat) : Int) - 0 = (s.1 : Nat) by omega]
                            exact next (s.1, false, false) (by rw [ea, if_neg (by omega), if_pos hh, if_pos rfl])
                          by_cases g1 : c = 124
                          · rw [if_pos g1]; exact bar (Or.inl g1)
                          · rw [if_neg g1]
                            by_cases g2 : c = 38
                            · rw [if_pos g2]; exact bar (Or.inr g2)
                            · rw [if_neg g2]
                              by_cases g3 : c = 41
                              · rw [if_pos g3]
                                rw [if_pos g3] at ea
                                refine ⟨⟨by omega, by omega⟩, ?_⟩
                                by_cases g4 : (0 : Int) < (s.1 : Nat)
                                · rw [if_pos g4]
                                  refine k_236_171 ⟨hrI, ?_⟩
                                  rw [if_pos g3]
                                  refine ⟨⟨by omega, by omega⟩, ?_⟩
                                  rw [if_neg (by decide), show ((s.1 : Nat) : Int) - 1 = ((s.1 - 1 : Nat) : Int) by omega]
                                  exact next (s.1 - 1, true, false) (by rw [ea, if_pos ⟨by omega, rfl⟩])
                                · rw [if_neg g4]
                                  exact no (by rw [ea, if_neg (fun hh => by have := hh.1; omega)])
                              · rw [if_neg g3]
                                exact no (by rw [ea, if_neg g3, if_neg (by omega)])
        · rw [if_neg c97]
          by_cases c106 : 106 < c
          · rw [if_pos c106, if_neg (by omega), if_neg (by omega), if_neg (by omega), if_neg (by omega), if_neg (by omega), if_neg (by omega), if_neg (by omega)]
            refine ⟨⟨by omega, by omega⟩, ?_⟩
            have no : auS s c = none → K_236 (d + 2) 171 [.ref 271, iV (s.1 : Nat), iV (b2 s.2.2), .retAddr 0, iV (j : Nat), iV c, .retAddr 0] [iV 0] u (fun r u' => u' = u ∧ auF (u.1 272) n (-2) r) := by
              intro h
              refine k_236_171 ⟨hrI, ?_⟩
              rw [if_neg (by omega)]
              refine ⟨⟨by omega, by omega⟩, ?_⟩
              rw [if_pos rfl]
              exact bad h
            by_cases g1 : c = 124
            · have ea : auS s c = if s.2.2 = false then some (s.1, false, false) else none := by
                unfold auS
                rw [if_neg c32, if_neg (by omega), if_neg (by omega), if_neg (by omega), if_pos (Or.inl g1)]
              cases hbn : s.2.2 with
              | true =>
                rw [if_neg (by decide), ← hbn]
                exact no (by rw [ea, if_neg (by rw [hbn]; decide)])
              | false =>
                rw [if_pos b2f, if_pos g1]
                refine k_236_171 ⟨hrI, ?_⟩
                rw [if_neg (by omega)]
                refine ⟨⟨by omega, by omega⟩, ?_⟩
                rw [if_neg (by decide), show ((s.1 : Nat) : Int) - 0 = (s.1 : Nat) by omega]
                exact next (s.1, false, false) (by rw [ea, if_pos hbn])
            · have ea : auS s c = none := by
                unfold auS
                rw [if_neg c32, if_neg (by omega), if_neg (by omega), if_neg (by omega), if_neg (by omega), if_neg (by omega), if_neg (by unfold atm; omega)]
              by_cases g : b2 s.2.2 = 0
              · rw [if_pos g, if_neg g1, if_neg (by omega), if_neg (by omega)]
                exact no ea
              · rw [if_neg g]
                exact no ea
          · rw [if_neg c106]
            exact atom (Or.inr (Or.inr ⟨by omega, by omega⟩))
  exact e_236 (loop n 0 (0, false, false) (by omega) rfl)
