/-! expression: both sides answer alike -/
def xp0 (b : Nat) (j : Int) : Prop := b = 1 ∨ b = 3 ∨ b = 4 ∨ (63 ≤ b ∧ b ≤ 184) ∨ (b = 271 ∧ (j = 1 ∨ j = 42 ∨ j = 43 ∨ j = 44 ∨ j = 61)) ∨ (301 ≤ b ∧ b ≤ 320)
def xp1 (w : Nat) (b : Nat) (j : Int) : Prop := xp0 b j ∨ b = 59 + 2 * w ∨ b = 59 + 2 * w + 1 ∨ (b = 193 + 19 * w ∧ j = 0)
theorem mEq_mk {u : uS} {w : Nat} {m : Ma} (hm : okM m) (hc : cMa u (59 + 2 * w) m) (hr : rMa u (w : Nat) m) : mEq u w := by
  obtain ⟨a1, a2, a3, a4⟩ := hm
  refine ⟨m.1, a1, a2, hc.1, hr.1, fun s c s0 s1 c0 c1 => ?_, fun s s0 s1 => ?_⟩
  · have h1 := hc.2.1 s c ⟨s0, s1⟩ c0 c1
    have h2 := a3 s c ⟨s0, s1⟩ c0 c1
    rw [h1, hr.2.1 s c ⟨s0, s1⟩ c0 c1]
    exact ⟨rfl, h2.1, h2.2⟩
  · rw [hr.2.2 s ⟨s0, s1⟩, hc.2.2.2]
theorem mEq_keep {u u' : uS} {w : Nat} (h : mEq u w) (h0 : u'.1 (59 + 2 * w) = u.1 (59 + 2 * w)) (h1 : u'.1 (59 + 2 * w + 1) = u.1 (59 + 2 * w + 1)) (h2 : u'.1 301 (w : Nat) = u.1 301 (w : Nat)) (h3 : ∀ j : Int, 400 * (w : Int) ≤ j → j < 400 * (w : Int) + 400 → u'.1 302 j = u.1 302 j) (h4 : ∀ j : Int, 40 * (w : Int) ≤ j → j < 40 * (w : Int) + 40 → u'.1 303 j = u.1 303 j) : mEq u' w := by
  obtain ⟨n, a1, a2, a3, a4, a5, a6⟩ := h
  refine ⟨n, a1, a2, by rw [h0]; exact a3, by rw [h2]; exact a4, fun s c s0 s1 c0 c1 => ?_, fun s s0 s1 => ?_⟩
  · rw [h1, h3 _ (by omega) (by omega)]
    exact a5 s c s0 s1 c0 c1
  · rw [h0, h4 _ (by omega) (by omega)]
    exact a6 s s0 s1
def EXQ (x : Int) (u : uS) (r r' : Int) (u2 : uS) : Prop := r' = r ∧ invS u2 ∧ invM u2 ∧ CE u2 ∧ B3 u2 ∧ (∀ b, b ≠ 64 → u2.2 b = u.2 b) ∧ (fr1 xp0 u u2 ∨ ∃ w : Nat, w < 2 ∧ x = (w : Nat) ∧ u2.1 (193 + 19 * w) 0 = 0 ∧ fr1 (xp1 w) u u2)
set_option maxRecDepth 4000 in
theorem st_expression {d : Nat} {u : uS} {x : Int} (hx : rI x) (hS : invS u) (hM : invM u) (hE : CE u) (hB : B3 u) : cI (d + 10) 62 [.ref 0, iV x] u (fun r u1 => cI (d + 10) 235 [.ref 271, iV x] u1 (EXQ x u r)) := by
  have same : ∀ r : Int, EXQ x u r r u := fun r => ⟨rfl, hS, hM, hE, hB, fun _ _ => rfl, Or.inl (fun _ _ _ => rfl)⟩
  refine e_62 (d := d + 8) ⟨hx, ?_⟩
  by_cases x0 : x < 0
  · rw [if_pos x0]
    refine e_235 (d := d + 8) ⟨hx, ?_⟩
    rw [if_pos x0]
    exact same (-1)
  · rw [if_neg x0]
    by_cases x2 : x < 2
    · rw [if_pos x2]
      obtain ⟨w, ew⟩ : ∃ w : Nat, x = (w : Nat) := ⟨x.toNat, by omega⟩
      have hw : w < 2 := by omega
      rw [ew, Int.toNat_natCast]
      obtain ⟨n, hn, s1, s2, s3⟩ := id hS
      have hcg : ∀ j : Nat, j < n → u.1 272 j = u.1 2 j := fun j hj => (s3 j hj).1
      have hrI : ∀ j : Nat, j < n → rI (u.1 2 j) := fun j hj => by have := (s3 j hj).2; exact ⟨by omega, by omega⟩
      have hrI' : ∀ j : Nat, j < n → rI (u.1 272 j) := fun j hj => by rw [hcg j hj]; exact hrI j hj
      refine cV.mono (c_18 (d := d + 8) hn s1 hrI) (Nat.le_refl _) (fun u4 h4 => ?_)
      obtain ⟨t1, t2, t3⟩ := h4
      refine (q_64 (d := d + 5) hn hrI t1).mono (Nat.le_refl _) (fun r6 u5 h5 => ?_)
      obtain ⟨m5, hF⟩ := h5
      -- what has changed so far
      have n5 : ∀ (b : Nat) (j : Int), b ≠ 1 → b ≠ 3 → b ≠ 4 → b ≠ 63 → u5.1 b j = u.1 b j := fun b j h1 h3 h4 h63 => by
        rw [m5.2 b j (fun e => absurd e h63), t3.2 b (by simp only [List.mem_cons, List.not_mem_nil, or_false, not_or]; omega)]
      have n5' : ∀ b : Nat, b ≠ 1 → b ≠ 3 → b ≠ 4 → b ≠ 63 → u5.1 b = u.1 b := fun b h1 h3 h4 h63 => funext (fun j => n5 b j h1 h3 h4 h63)
      have r5 : u5.2 = u.2 := by rw [m5.1, t3.1]
      have k14 : u5.1 1 4 = 0 := by rw [m5.2 1 4 (fun e => absurd e (by decide))]; exact t2
      have E5 : CE u5 := CE_of hE (n5' 70 (by decide) (by decide) (by decide) (by decide)) (n5' 78 (by decide) (by decide) (by decide) (by decide)) (n5' 79 (by decide) (by decide) (by decide) (by decide))
      have hr6 : rI r6 := by
        rcases hF with ⟨j, s, a, -, -, e⟩ | ⟨s, -, -, e⟩ | ⟨b, -, e⟩
        · exact ⟨by omega, by omega⟩
        · exact ⟨by omega, by omega⟩
        · exact ⟨by omega, by omega⟩
      have invS2 : ∀ v : uS, v.1 1 4 = 0 → v.1 271 1 = 0 → invS v := fun v h1 h2 => ⟨0, by omega, h1, h2, fun j hj => absurd hj (Nat.not_lt_zero j)⟩
      refine ⟨hr6, ?_⟩
      by_cases c6 : r6 = -1
      · rw [if_pos c6]
        rw [c6] at hF
        obtain ⟨b, hb⟩ : ∃ b : Bool, auR (u.1 2) n = some (0, b, false) := by
          rcases hF with ⟨j, s, a, -, -, e⟩ | ⟨s, -, -, e⟩ | ⟨b, hb, -⟩
          · omega
          · omega
          · exact ⟨b, hb⟩
        have t5 : txt u5 (u.1 2) n := by
          obtain ⟨q1, q2, q3⟩ := t1
          have h1 : u5.1 1 = u4.1 1 := funext (fun j => m5.2 1 j (fun e => absurd e (by decide)))
          have h3 : u5.1 3 = u4.1 3 := funext (fun j => m5.2 3 j (fun e => absurd e (by decide)))
          have h4 : u5.1 4 = u4.1 4 := funext (fun j => m5.2 4 j (fun e => absurd e (by decide)))
          unfold txt
          rw [h1, h3, h4]
          exact ⟨q1, q2, q3⟩
        refine (q_67 (d := d) hn hrI t5 E5 hb).mono (Nat.le_refl _) (fun r10 u9 h9 => ?_)
        obtain ⟨X9, E9, h9⟩ := h9
        have n9 : ∀ b : Nat, b ≠ 1 → b ≠ 3 → b ≠ 4 → (b < 63 ∨ 184 < b) → u9.1 b = u.1 b := fun b h1 h3 h4 h63 => by rw [X9.1 b h63, n5' b h1 h3 h4 (by omega)]
        have r9 : ∀ b, b ≠ 64 → u9.2 b = u.2 b := fun b hb => by rw [X9.2 b hb, r5]
        have k914 : u9.1 1 4 = 0 := by rw [X9.1 1 (by omega)]; exact k14
        -- the other side, from a state v behind this side's end
        have other : ∀ (v : uS) (r : Int), v.1 271 = u.1 271 → v.1 272 = u.1 272 → v.1 303 = u.1 303 → (∀ (r' : Int) (u' : uS), u'.1 271 1 = 0 → XE (u.1 272) n w (wr v 271 1 0) r' u' → EXQ (w : Nat) u r r' u') → cI (d + 10) 235 [.ref 271, iV (w : Nat)] v (EXQ (w : Nat) u r) := by
          intro v r h271 h272 h303 H
          refine (q_235 (d := d + 1) hw hn (by rw [h271]; exact s2) (by rw [h272]; exact hrI') (fun j => by rw [h303]; exact hB j)).mono (Nat.le_refl _) (fun r' u' h => ?_)
          rw [h272] at h
          rcases h with ⟨p, p1, p2, p3, p4⟩ | ⟨p1, p2, p3⟩
          · rcases auF_uniq hcg hF p1 with ⟨q1, q2, -⟩ | ⟨-, q2, -⟩
            · omega
            · exact absurd q2 p2
          · exact H r' u' p2 p3
        rcases h9 with ⟨e10, S', m, b1, b2', okm, m89⟩ | ⟨e10, b1⟩
        · rw [e10]
          refine ⟨⟨by omega, by omega⟩, ?_⟩
          rw [if_neg (by decide)]
          intro u13 e13 u15 e15
          have k15 : u15.1 (59 + 2 * w) 0 = (m.1 : Nat) := by rw [e15, wr_1, if_neg (by omega), e13, wr_self]; exact m89.1
          have h40 := okm.2.1
          rw [k15]
          refine ⟨by omega, by omega, fun u19 e19 u21 e21 => ?_⟩
          rw [← k15] at e19
          obtain ⟨q1, q2⟩ := take_ok (u := u9) (a := 59 + 2 * w) (l := 89) okm m89 (by omega) (by omega) (by omega) u13 e13 e15 e19
          have n21 : ∀ b : Nat, b ≠ 59 + 2 * w → b ≠ 59 + 2 * w + 1 → b ≠ 193 + 19 * w → u21.1 b = u9.1 b := fun b h1 h2 h3 => by rw [e21, wr_ne h3, q2.2 b h1 h2]
          have m21 : cMa u21 (59 + 2 * w) m := cMa_of q1 (by rw [e21, wr_ne (by omega)]) (by rw [e21, wr_ne (by omega)]) (by rw [e21, wr_ne (by omega)])
          rw [m21.1]
          refine other u21 (m.1 : Nat) (by rw [n21 271 (by omega) (by omega) (by omega), n9 271 (by decide) (by decide) (by decide) (by omega)]) (by rw [n21 272 (by omega) (by omega) (by omega), n9 272 (by decide) (by decide) (by decide) (by omega)]) (by rw [n21 303 (by omega) (by omega) (by omega), n9 303 (by decide) (by decide) (by decide) (by omega)]) (fun r' u' h1' hh => ?_)
          obtain ⟨B', hh⟩ := hh
          rcases hh with ⟨-, g2, -⟩ | ⟨S2, m2, g1, g2, g3, g4, g5, g6⟩
          · rw [bFin_congr hcg, b1] at g2
            cases g2
          · rw [bFin_congr hcg, b1] at g1
            injection g1 with g1
            rw [← g1, b2'] at g2
            injection g2 with g2
            rw [← g2] at g3 g4 g5
            have l' : ∀ b : Nat, ¬ (301 ≤ b ∧ b ≤ 320) → b ≠ 271 → u'.1 b = u21.1 b := fun b hb hb' => funext (fun j => by rw [g6.2.1 b j hb (fun e => absurd e hb'), wr_ne hb'])
            refine ⟨by rw [g4], invS2 u' (by rw [l' 1 (by omega) (by decide), n21 1 (by omega) (by omega) (by omega)]; exact k914) h1', ?_, ?_, B', fun b hb => ?_, Or.inr ⟨w, hw, rfl, ?_, fun b j hP => ?_⟩⟩
            · have this : mEq u' w := mEq_mk okm (cMa_of m21 (by rw [l' (59 + 2 * w) (by omega) (by omega)]) (by rw [l' (59 + 2 * w) (by omega) (by omega)]) (l' (59 + 2 * w + 1) (by omega) (by omega))) g5
              have other1 : ∀ w' : Nat, w' < 2 → w' ≠ w → mEq u w' → mEq u' w' := by
                intro w' hw' hne h
                refine mEq_keep h (by rw [l' _ (by omega) (by omega), n21 _ (by omega) (by omega) (by omega), n9 _ (by omega) (by omega) (by omega) (by omega)]) (by rw [l' _ (by omega) (by omega), n21 _ (by omega) (by omega) (by omega), n9 _ (by omega) (by omega) (by omega) (by omega)]) ?_ (fun j j1 j2 => ?_) (fun j j1 j2 => ?_)
                · rw [g6.2.2.1 _ (by omega) (by omega), wr_ne (by decide), n21 301 (by omega) (by omega) (by omega), n9 301 (by decide) (by decide) (by decide) (by omega)]
                · rw [g6.2.2.2.1 j (by omega) (by omega), wr_ne (by decide), n21 302 (by omega) (by omega) (by omega), n9 302 (by decide) (by decide) (by decide) (by omega)]
                · rw [g6.2.2.2.2 j (by omega) (by omega), wr_ne (by decide), n21 303 (by omega) (by omega) (by omega), n9 303 (by decide) (by decide) (by decide) (by omega)]
              by_cases w0 : w = 0
              · exact ⟨by rw [w0] at this; exact this, other1 1 (by omega) (by omega) hM.2⟩
              · have w1 : w = 1 := by omega
                exact ⟨other1 0 (by omega) (by omega) hM.1, by rw [w1] at this; exact this⟩
            · exact CE_of E9 (by rw [l' 70 (by omega) (by decide), n21 70 (by omega) (by omega) (by omega)]) (by rw [l' 78 (by omega) (by decide), n21 78 (by omega) (by omega) (by omega)]) (by rw [l' 79 (by omega) (by decide), n21 79 (by omega) (by omega) (by omega)])
            · rw [g6.1, wr_2, e21, wr_2, q2.1]; exact r9 b hb
            · rw [l' _ (by omega) (by omega), e21, wr_self]
            · unfold xp1 xp0 at hP
              by_cases e271 : b = 271
              · rw [e271] at hP ⊢
                rw [g6.2.1 271 j (by omega) (fun _ => by omega), wr_1, if_neg (fun e => by have := e.2; omega), n21 271 (by omega) (by omega) (by omega), n9 271 (by decide) (by decide) (by decide) (by omega)]
              · rw [l' b (by omega) e271]
                by_cases e193 : b = 193 + 19 * w
                · have hj : j ≠ 0 := fun e => hP (Or.inr (Or.inr (Or.inr ⟨e193, e⟩)))
                  rw [e21, e193, wr_1, if_neg (fun e => hj e.2), q2.2 _ (by omega) (by omega), n9 _ (by omega) (by omega) (by omega) (by omega)]
                · rw [n21 b (by omega) (by omega) e193, n9 b (by omega) (by omega) (by omega) (by omega)]
        · rw [e10]
          refine ⟨⟨by omega, by omega⟩, ?_⟩
          rw [if_pos rfl]
          refine other u9 (-1000) (n9 271 (by decide) (by decide) (by decide) (by omega)) (n9 272 (by decide) (by decide) (by decide) (by omega)) (n9 303 (by decide) (by decide) (by decide) (by omega)) (fun r' u' h1' hh => ?_)
          obtain ⟨B', hh⟩ := hh
          rcases hh with ⟨g1, g2, g6⟩ | ⟨S2, m2, g1, -⟩
          · have l' : ∀ b : Nat, ¬ (301 ≤ b ∧ b ≤ 320) → b ≠ 271 → u'.1 b = u9.1 b := fun b hb hb' => funext (fun j => by rw [g6.2.1 b j hb (fun e => absurd e hb'), wr_ne hb'])
            refine ⟨g1, invS2 u' (by rw [l' 1 (by omega) (by decide)]; exact k914) h1', ?_, CE_of E9 (l' 70 (by omega) (by decide)) (l' 78 (by omega) (by decide)) (l' 79 (by omega) (by decide)), B', fun b hb => by rw [g6.1, wr_2]; exact r9 b hb, Or.inl (fun b j hP => ?_)⟩
            · have keep : ∀ w' : Nat, w' < 2 → mEq u w' → mEq u' w' := by
                intro w' hw' h
                refine mEq_keep h (by rw [l' _ (by omega) (by omega), n9 _ (by omega) (by omega) (by omega) (by omega)]) (by rw [l' _ (by omega) (by omega), n9 _ (by omega) (by omega) (by omega) (by omega)]) ?_ (fun j j1 j2 => ?_) (fun j j1 j2 => ?_)
                · rw [g6.2.2.1 _ (by omega), wr_ne (by decide), n9 301 (by decide) (by decide) (by decide) (by omega)]
                · rw [g6.2.2.2.1 j (by omega), wr_ne (by decide), n9 302 (by decide) (by decide) (by decide) (by omega)]
                · rw [g6.2.2.2.2 j (by omega), wr_ne (by decide), n9 303 (by decide) (by decide) (by decide) (by omega)]
              exact ⟨keep 0 (by omega) hM.1, keep 1 (by omega) hM.2⟩
            · unfold xp0 at hP
              by_cases e271 : b = 271
              · rw [e271] at hP ⊢
                rw [g6.2.1 271 j (by omega) (fun _ => by omega), wr_1, if_neg (fun e => by have := e.2; omega), n9 271 (by decide) (by decide) (by decide) (by omega)]
              · rw [l' b (by omega) e271, n9 b (by omega) (by omega) (by omega) (by omega)]
          · rw [bFin_congr hcg, b1] at g1
            cases g1
      · rw [if_neg c6]
        -- a fault
        refine (q_235 (d := d + 1) (u := u5) hw hn (by rw [n5 271 1 (by decide) (by decide) (by decide) (by decide)]; exact s2) (fun j hj => by rw [n5 272 j (by decide) (by decide) (by decide) (by decide)]; exact hrI' j hj) (fun j => by rw [n5 303 j (by decide) (by decide) (by decide) (by decide)]; exact hB j)).mono (Nat.le_refl _) (fun r' u' h => ?_)
        rw [n5' 272 (by decide) (by decide) (by decide) (by decide)] at h
        rcases h with ⟨p, p1, p2, p3, p4⟩ | ⟨p1, p2, p3⟩
        · rcases auF_uniq hcg hF p1 with ⟨q1, q2, -⟩ | ⟨q1, -, -⟩
          · have n' : ∀ b : Nat, b ≠ 1 → b ≠ 3 → b ≠ 4 → b ≠ 63 → b ≠ 271 → u'.1 b = u.1 b := fun b h1 h3 h4 h63 h27 => by rw [p4, wr_ne h27, n5' b h1 h3 h4 h63]
            refine ⟨by rw [p3, q1], invS2 u' (by rw [p4, wr_ne (by decide)]; exact k14) (by rw [p4, wr_self]), ?_, CE_of hE (n' 70 (by decide) (by decide) (by decide) (by decide) (by decide)) (n' 78 (by decide) (by decide) (by decide) (by decide) (by decide)) (n' 79 (by decide) (by decide) (by decide) (by decide) (by decide)), fun j => by rw [n' 303 (by decide) (by decide) (by decide) (by decide) (by decide)]; exact hB j, fun b _ => by rw [p4, wr_2, r5], Or.inl (fun b j hP => ?_)⟩
            · have keep : ∀ w' : Nat, w' < 2 → mEq u w' → mEq u' w' := by
                intro w' hw' h
                exact mEq_keep h (n' _ (by omega) (by omega) (by omega) (by omega) (by omega)) (n' _ (by omega) (by omega) (by omega) (by omega) (by omega)) (by rw [n' 301 (by decide) (by decide) (by decide) (by decide) (by decide)]) (fun j _ _ => by rw [n' 302 (by decide) (by decide) (by decide) (by decide) (by decide)]) (fun j _ _ => by rw [n' 303 (by decide) (by decide) (by decide) (by decide) (by decide)])
              exact ⟨keep 0 (by omega) hM.1, keep 1 (by omega) hM.2⟩
            · unfold xp0 at hP
              rw [p4, wr_1, if_neg (fun e => by omega)]
              exact n5 b j (by omega) (by omega) (by omega) (by omega)
          · exact absurd q1 c6
        · rcases auF_uniq hcg hF p1 with ⟨q1, q2, -⟩ | ⟨q1, -, -⟩
          · omega
          · exact absurd q1 c6
    · rw [if_neg x2]
      refine e_235 (d := d + 8) ⟨hx, ?_⟩
      rw [if_neg x0, if_pos (by omega)]
      exact same (-1)
