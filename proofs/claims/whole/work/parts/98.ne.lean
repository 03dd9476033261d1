/-! The other side's expression -/
theorem bRun_congr {f g : Int → Int} {n : Nat} (h : ∀ j : Nat, j < n → g j = f j) : ∀ j : Nat, j ≤ n → bRun g j = bRun f j
  | 0, _ => rfl
  | j + 1, hj => by
    show (bRun g j).bind _ = (bRun f j).bind _
    rw [bRun_congr h j (by omega), h j (by omega)]
theorem bFin_congr {f g : Int → Int} {n : Nat} (h : ∀ j : Nat, j < n → g j = f j) : bFin g n = bFin f n := by
  unfold bFin
  rw [bRun_congr h n (Nat.le_refl n)]
theorem q_259g {d : Nat} {u : uS} (z : u.1 271 43 = 1) (h : r42 u) : cV (d + 2) 259 [.ref 271] u (fun u' => u' = u) := by
  have h1 := h.1
  have h2 := h.2
  refine e_259 ⟨⟨by omega, by omega⟩, ?_⟩
  by_cases c : u.1 271 42 < 80
  · rw [if_pos c]
  · rw [if_neg c]
    refine ⟨⟨by omega, by omega⟩, ?_⟩
    rw [if_neg (by omega)]
/-- the machine w is the only one of the two that changes -/
def RY (w : Nat) (u u' : uS) : Prop := u'.2 = u.2 ∧ (∀ (b : Nat) (j : Int), ¬ (301 ≤ b ∧ b ≤ 320) → (b = 271 → j ≠ 42 ∧ j ≠ 43 ∧ j ≠ 44 ∧ j ≠ 61) → u'.1 b j = u.1 b j) ∧ (∀ j : Int, j < 2 → j ≠ (w : Nat) → u'.1 301 j = u.1 301 j) ∧ (∀ j : Int, j < 800 → ¬ (400 * (w : Int) ≤ j ∧ j < 400 * (w : Int) + 400) → u'.1 302 j = u.1 302 j) ∧ ∀ j : Int, j < 80 → ¬ (40 * (w : Int) ≤ j ∧ j < 40 * (w : Int) + 40) → u'.1 303 j = u.1 303 j
/-- what the other side's building comes to -/
def XE (f : Int → Int) (n : Nat) (w : Nat) (u : uS) (r : Int) (u' : uS) : Prop := B3 u' ∧ ((r = -1000 ∧ bFin f n = none ∧ RX u u') ∨ ∃ (S' : bSt) (m : Ma), bFin f n = some S' ∧ S'.2.1 0 0 = some m ∧ okM m ∧ r = (m.1 : Nat) ∧ rMa u' (w : Nat) m ∧ RY w u u')
set_option maxRecDepth 4000 in
theorem l_235 {d n w : Nat} {f : Int → Int} {u : uS} {b : Bool} (hw : w < 2) (hn : n ≤ 300) (hf : ∀ j : Nat, j < n → rI (f j)) (h272 : u.1 272 = f) (hau : auR f n = some (0, b, false)) {QQ : Int → uS → Prop} (hQ : ∀ r u', XE f n w u r u' → QQ r u') : ∀ (m j : Nat) (v : uS) (S : bSt) (s : aSt) (M : Nat), j + m = n → RX u v → v.1 271 43 = 0 → RB v S M j → M ≤ 79 → auR f j = some s → lkd S s → bRun f j = some S → K_235 (d + 8) 60 [.ref 271, iV (w : Nat), .retAddr 0, iV (n : Nat), iV (j : Nat)] [] v QQ := by
  have hsome : ∀ j : Nat, j ≤ n → ∃ s, auR f j = some s := by
    intro j hj
    cases h : auR f j with
    | some s => exact ⟨s, rfl⟩
    | none =>
      have := auR_none h (n - j)
      rw [show j + (n - j) = n by omega, hau] at this
      cases this
  have great : ∀ (v : uS) (x : Int), RX u v → B3 v → v.1 271 43 = 1 → bFin f n = none → rI x → K_235 (d + 8) 60 [.ref 271, iV (w : Nat), .retAddr 0, iV (n : Nat), iV x] [] v QQ := by
    intro v x hX hB z hb hx
    have last : K_235 (d + 8) 106 [.ref 271, iV (w : Nat), .retAddr 0, .retAddr 0, .retAddr 0] [] v QQ := by
      refine k_235_106 (d := d + 7) ⟨⟨by omega, by omega⟩, ?_⟩
      rw [if_neg (by omega)]
      exact hQ _ _ ⟨hB, Or.inl ⟨rfl, hb, hX⟩⟩
    refine k_235_60 (d := d + 7) ⟨hx, ⟨by omega, by omega⟩, ?_⟩
    by_cases c : x < (n : Nat)
    · rw [if_pos c]
      refine ⟨⟨by omega, by omega⟩, ?_⟩
      rw [if_neg (by omega)]
      exact last
    · rw [if_neg c]
      exact last
  intro m
  induction m with
  | zero =>
    intro j v S s M hj hX z hB hM ha hl hr
    have ej : j = n := by omega
    rw [ej] at ha hr
    have hs0 : S.1 = 0 := by
      rw [hau] at ha
      injection ha with ha
      rw [hl.1, ← ha]
    refine k_235_60 (d := d + 7) ⟨⟨by omega, by omega⟩, ⟨by omega, by omega⟩, ?_⟩
    rw [if_neg (by omega)]
    refine k_235_106 (d := d + 7) ?_
    rw [z]
    refine ⟨⟨by omega, by omega⟩, ?_⟩
    rw [if_pos rfl]
    refine (q_255 (d := d + 1) hB (by omega) z).mono (Nat.le_refl _) (fun u3 h3 => ?_)
    have ebF : bFin f n = ((bdI S).bind bdR).bind bdE := by unfold bFin; rw [hr]; rfl
    obtain ⟨x3, y3, h3⟩ := h3
    rcases h3 with ⟨z3, S3, M3, b3, hM3, d3⟩ | ⟨z3, b3, -⟩
    · rw [z3]
      refine ⟨⟨by omega, by omega⟩, ?_⟩
      rw [if_pos rfl]
      obtain ⟨S2, c1, c2⟩ := bind_some b3
      obtain ⟨S1, c3, c4⟩ := bind_some c1
      have i1 := (bdI_1 c3).1
      have i2 := (bdR_1 c4).1
      obtain ⟨i3, -, y, hy⟩ := bdE_1 c2
      have hS3 : S3.1 = 0 := by omega
      have f0 := d3.2.2.2.2.2.2.1 0 S3.1 (by omega) (Nat.le_refl _)
      rw [hy, hS3] at f0
      obtain ⟨k, k1, k2, k3, k4, k5⟩ := fRf_some f0
      have k1 : u3.1 314 0 = (k : Nat) := k1
      rw [k1]
      refine (q_261 (d := d + 7) (a := k) (b := w) (by omega) (by omega) y3).mono (Nat.le_refl _) (fun u6 h6 => ?_)
      have m6 := CY_to h6 k4 k5
      refine ⟨by omega, by omega, hQ _ _ ⟨CY_B3 h6 y3, Or.inr ⟨S3, y, by rw [ebF]; exact b3, by rw [hS3] at hy; exact hy, k4, m6.1, m6, ?_⟩⟩⟩
      have X3 := RX_trans hX x3
      obtain ⟨g1, g2, g3, g4, g5⟩ := h6
      refine ⟨g1.trans X3.1, fun b j hb hj => ?_, fun j j1 j2 => ?_, fun j j1 j2 => ?_, fun j j1 j2 => ?_⟩
      · rw [g2 b (by omega) (by omega) (by omega)]
        exact X3.2.1 b j hb hj
      · rw [g3, uf_ne j2]; exact X3.2.2.1 j j1
      · rw [g4, if_neg j2]; exact X3.2.2.2.1 j j1
      · rw [g5, if_neg j2]; exact X3.2.2.2.2 j j1
    · rw [z3]
      refine ⟨⟨by omega, by omega⟩, ?_⟩
      rw [if_neg (by decide)]
      exact hQ _ _ ⟨y3, Or.inl ⟨rfl, by rw [ebF]; exact b3, RX_trans hX x3⟩⟩
  | succ m ih =>
    intro j v S s M hj hX z hB hM ha hl hr
    have hrs := bRun_s hr
    obtain ⟨s', hs'⟩ := hsome (j + 1) (by omega)
    have has := auR_s ha
    rw [hs'] at has
    have has : auS s (f j) = some s' := has.symm
    have v272 : v.1 272 = f := by rw [← h272]; exact funext (fun i => hX.2.1 272 i (by omega) (fun e => absurd e (by decide)))
    have hfj := hf j (by omega)
    refine k_235_60 (d := d + 7) ⟨⟨by omega, by omega⟩, ⟨by omega, by omega⟩, ?_⟩
    rw [if_pos (by omega), z, v272]
    refine ⟨⟨by omega, by omega⟩, ?_⟩
    rw [if_pos rfl]
    refine ⟨by omega, by omega, hfj, ?_⟩
    by_cases c32 : f j = 32
    · rw [if_pos c32]
      rw [if_pos c32] at hrs
      have e : s' = s := by
        unfold auS at has
        rw [if_pos c32] at has
        injection has with has
        exact has.symm
      exact ih (j + 1) v S s' M (by omega) hX z (RB_T hB (by omega) (by omega)) hM hs' (by rw [e]; exact hl) hrs
    · rw [if_neg c32]
      rw [if_neg c32] at hrs
      refine (q_240 (d := d) hB (by omega) (by omega) z hfj c32 hl has).mono (Nat.le_refl _) (fun u10 h10 => ?_)
      obtain ⟨x1, y1, h1⟩ := h10
      rcases h1 with ⟨z1, S1, M1, b1, hM1, d1⟩ | ⟨z1, b1, w1⟩
      · refine (q_259 (d := d + 6) d1 (by omega) z1).mono (Nat.le_refl _) (fun u11 h11 => ?_)
        obtain ⟨x2, y2, z2, M2, hM2, d2⟩ := h11
        exact ih (j + 1) u11 S1 s' M2 (by omega) (RX_trans hX (RX_trans x1 x2)) z2 d2 hM2 hs' (sgn_link c32 hl has b1) (by rw [hrs]; exact b1)
      · refine (q_259g (d := d + 6) z1 w1).mono (Nat.le_refl _) (fun u11 h11 => ?_)
        rw [h11]
        exact great u10 ((j : Int) + 1) (RX_trans hX x1) y1 z1 (bFin_none (show j + 1 ≤ n by omega) (by rw [hrs]; exact b1)) ⟨by omega, by omega⟩
set_option maxRecDepth 4000 in
theorem q_235 {d n w : Nat} {u : uS} (hw : w < 2) (hn : n ≤ 300) (h1 : u.1 271 1 = n) (hf : ∀ j : Nat, j < n → rI (u.1 272 j)) (hB : B3 u) : cI (d + 9) 235 [.ref 271, iV (w : Nat)] u (fun r u' => (∃ p : Int, auF (u.1 272) n (-2) p ∧ p ≠ -2 ∧ r = -2 - p ∧ u' = wr u 271 1 0) ∨ (auF (u.1 272) n (-2) (-2) ∧ u'.1 271 1 = 0 ∧ XE (u.1 272) n w (wr u 271 1 0) r u')) := by
  refine e_235 (d := d + 7) ⟨⟨by omega, by omega⟩, ?_⟩
  rw [if_neg (by omega), if_neg (by omega)]
  refine (q_236 (d := d + 5) hn h1 hf).mono (Nat.le_refl _) (fun r5 u4 h4 => ?_)
  obtain ⟨e4, h4⟩ := h4
  rw [e4]
  intro u6 e6
  have hr5 : rI r5 := by
    rcases h4 with ⟨j, s, a, -, -, e⟩ | ⟨s, -, -, e⟩ | ⟨b, -, e⟩
    · exact ⟨by omega, by omega⟩
    · exact ⟨by omega, by omega⟩
    · exact ⟨by omega, by omega⟩
  refine ⟨hr5, ?_⟩
  by_cases c : r5 = -2
  · rw [if_pos c]
    rw [c] at h4
    intro u10 e10 u12 e12 u14 e14
    have hno : ∃ b : Bool, auR (u.1 272) n = some (0, b, false) := by
      rcases h4 with ⟨j, s, a, -, -, e⟩ | ⟨s, -, -, e⟩ | ⟨b, hb, -⟩
      · omega
      · omega
      · exact ⟨b, hb⟩
    · obtain ⟨b, hb⟩ := hno
      have k14 : u14.1 271 61 = 0 := by rw [e14, wr_self]
      refine e_239 (d := d + 7) ?_
      rw [k14]
      refine ⟨by omega, by omega, fun u3 e3 => ?_⟩
      have k3 : u3.1 271 61 = 0 := by rw [e3, wr_ne (by decide)]; exact k14
      rw [k3]
      refine ⟨by omega, by omega, fun u7 e7 => ?_⟩
      have k7 : u7.1 271 61 = 0 := by rw [e7, wr_ne (by decide)]; exact k3
      rw [k7]
      refine ⟨by omega, by omega, fun u11 e11 => ?_⟩
      have k11 : u11.1 271 61 = 0 := by rw [e11, wr_ne (by decide)]; exact k7
      rw [k11]
      refine ⟨by omega, by omega, fun u15 e15 => ?_⟩
      have k15 : u15.1 271 61 = 0 := by rw [e15, wr_ne (by decide)]; exact k11
      rw [k15]
      refine ⟨by omega, by omega, fun u19 e19 u21 e21 => ?_⟩
      have k19 : u19.1 271 61 = 0 := by rw [e19, wr_ne (by decide)]; exact k15
      rw [k19] at e21
      have hX21 : RX u6 u21 := by
        rw [e21, e19, e15, e11, e7, e3, e14, e12, e10]
        exact RX_w1 (by omega) (RX_wr (by omega) (by omega) (RX_wr (by omega) (by omega) (RX_wr (by omega) (by omega) (RX_wr (by omega) (by omega) (RX_wr (by omega) (by omega) (RX_w1 (by omega) (RX_w1 (by omega) (RX_w1 (by omega) (RX_refl u6)))))))))
      have h271 : ∀ i : Int, i ≠ 61 → u21.1 271 i = u14.1 271 i := fun i hi => by rw [e21, wr_1, if_neg (fun e => hi e.2), e19, wr_ne (by decide), e15, wr_ne (by decide), e11, wr_ne (by decide), e7, wr_ne (by decide), e3, wr_ne (by decide)]
      have g43 : u21.1 271 43 = 0 := by rw [h271 43 (by decide), e14, wr_1, if_neg (by decide), e12, wr_1, if_neg (by decide), e10, wr_self]
      have g42 : u21.1 271 42 = 2 := by rw [h271 42 (by decide), e14, wr_1, if_neg (by decide), e12, wr_self]
      have g61 : u21.1 271 61 = 1 := by rw [e21, wr_self]; rfl
      have g303 : u21.1 303 = u.1 303 := by rw [e21, wr_ne (by decide), e19, wr_ne (by decide), e15, wr_ne (by decide), e11, wr_ne (by decide), e7, wr_ne (by decide), e3, wr_ne (by decide), e14, wr_ne (by decide), e12, wr_ne (by decide), e10, wr_ne (by decide), e6, wr_ne (by decide)]
      have g319 : u21.1 319 0 = 0 := by rw [e21, wr_ne (by decide), e19, wr_self]
      have ga : ∀ a : Nat, a < 4 → u21.1 (314 + a) 0 = -2 := by
        intro a ha
        have ha4 : a = 0 ∨ a = 1 ∨ a = 2 ∨ a = 3 := by omega
        rcases ha4 with e | e | e | e
        · rw [e]
          show u21.1 314 0 = -2
          rw [e21, wr_ne (by decide), e19, wr_ne (by decide), e15, wr_ne (by decide), e11, wr_ne (by decide), e7, wr_ne (by decide), e3, wr_self]
        · rw [e]
          show u21.1 315 0 = -2
          rw [e21, wr_ne (by decide), e19, wr_ne (by decide), e15, wr_ne (by decide), e11, wr_ne (by decide), e7, wr_self]
        · rw [e]
          show u21.1 316 0 = -2
          rw [e21, wr_ne (by decide), e19, wr_ne (by decide), e15, wr_ne (by decide), e11, wr_self]
        · rw [e]
          show u21.1 317 0 = -2
          rw [e21, wr_ne (by decide), e19, wr_ne (by decide), e15, wr_self]
      have B21 : B3 u21 := fun i => by rw [g303]; exact hB i
      have R21 : RB u21 (0, fun _ _ => none, fun _ => false) 2 0 := by
        refine ⟨by rw [g61]; rfl, by show 0 ≤ 15; omega, by rw [g42]; rfl, by omega, by omega, B21, fun a l ha hl => ?_, fun l hl => ?_, fun l hl _ => ?_, fun m hm => by cases hm⟩
        · have hl : l ≤ 0 := hl
          have el : l = 0 := by omega
          rw [el]
          exact Or.inl ⟨rfl, ga a ha⟩
        · have hl : l ≤ 0 := hl
          have el : l = 0 := by omega
          rw [el]
          show 0 ≤ u21.1 319 0 ∧ u21.1 319 0 ≤ _
          rw [g319]
          exact ⟨by omega, by omega⟩
        · have hl : l ≤ 0 := hl
          have el : l = 0 := by omega
          rw [el]
          show u21.1 319 0 % 2 = b2 false
          rw [g319]
          rfl
      have u6272 : u6.1 272 = u.1 272 := by rw [e6, wr_ne (by decide)]
      rw [h1]
      refine l_235 (d := d) (u := u6) (f := u.1 272) hw hn hf u6272 hb (fun r u' hh => Or.inr ⟨h4, ?_, ?_⟩) n 0 u21 (0, fun _ _ => none, fun _ => false) (0, false, false) 2 (by omega) hX21 g43 R21 (by omega) rfl ⟨rfl, fun e => by cases e⟩ rfl
      · have h6 : u6.1 271 1 = 0 := by rw [e6, wr_self]
        rcases hh.2 with ⟨-, -, q⟩ | ⟨S', m, -, -, -, -, -, q⟩
        · rw [q.2.1 271 1 (by omega) (fun _ => ⟨by decide, by decide, by decide, by decide⟩)]; exact h6
        · rw [q.2.1 271 1 (by omega) (fun _ => ⟨by decide, by decide, by decide, by decide⟩)]; exact h6
      · rw [← e6]; exact hh
  · rw [if_neg c]
    exact Or.inl ⟨r5, h4, c, rfl, e6⟩
