/-! One side's dividing, whole -/
def gr0 (gd : Nat → Bool) (p : Nat) : Nat := if gd p = gd 0 then 0 else 1
def mx0 (gd : Nat → Bool) : Nat → Nat
  | 0 => 1
  | k + 1 => max (mx0 gd k) (gr0 gd k + 1)
theorem gr0_r (gd : Nat → Bool) (p : Nat) : gr0 gd p ≤ 1 := by unfold gr0; split <;> omega
theorem gr0_0 (gd : Nat → Bool) : gr0 gd 0 = 0 := by unfold gr0; rw [if_pos rfl]
theorem mx0_r (gd : Nat → Bool) : ∀ k : Nat, 1 ≤ mx0 gd k ∧ mx0 gd k ≤ 2
  | 0 => ⟨by show 1 ≤ 1; omega, by show 1 ≤ 2; omega⟩
  | k + 1 => by
    have := mx0_r gd k
    have := gr0_r gd k
    show 1 ≤ max (mx0 gd k) (gr0 gd k + 1) ∧ max (mx0 gd k) (gr0 gd k + 1) ≤ 2
    omega
theorem mx0_lt (gd : Nat → Bool) : ∀ k p : Nat, p < k → gr0 gd p < mx0 gd k
  | 0, p, h => absurd h (Nat.not_lt_zero p)
  | k + 1, p, h => by
    show _ < max (mx0 gd k) (gr0 gd k + 1)
    by_cases e : p = k
    · rw [e]; omega
    · have := mx0_lt gd k p (by omega)
      omega
theorem mx0_on (gd : Nat → Bool) : ∀ k y : Nat, 1 ≤ y → y < mx0 gd k → ∃ p, p < k ∧ gr0 gd p = y
  | 0, y, h1, h2 => by
    have h2 : y < 1 := h2
    omega
  | k + 1, y, h1, h2 => by
    have h2 : y < max (mx0 gd k) (gr0 gd k + 1) := h2
    by_cases c : y < mx0 gd k
    · obtain ⟨p, p1, p2⟩ := mx0_on gd k y h1 c
      exact ⟨p, by omega, p2⟩
    · have := gr0_r gd k
      exact ⟨k, by omega, by omega⟩
theorem prt_0 (gd : Nat → Bool) {P : Nat} (hP : 1 ≤ P) : prt P (gr0 gd) (mx0 gd P) := ⟨fun p hp => mx0_lt gd P p hp, fun y hy => by
  by_cases c : y = 0
  · exact ⟨0, by omega, by rw [c]; exact gr0_0 gd⟩
  · exact mx0_on gd P y (by omega) hy⟩
theorem wayP_0 (gd : Nat → Bool) (x : Int → Int) (P : Nat) : wayP gd x P (gr0 gd) := by
  refine ⟨fun p q _ _ e => ?_, fun p q _ _ e => ?_⟩
  · unfold gr0
    rw [nE_gd e]
  · unfold gr0 at e
    by_cases c1 : gd p = gd 0
    · rw [if_pos c1] at e
      by_cases c2 : gd q = gd 0
      · rw [c1, c2]
      · rw [if_neg c2] at e; omega
    · rw [if_neg c1] at e
      by_cases c2 : gd q = gd 0
      · rw [if_pos c2] at e; omega
      · cases h1 : gd p <;> cases h2 : gd q <;> cases h3 : gd 0 <;> simp_all
/-- what the dividing leaves -/
def DVD (gd : Nat → Bool) (x : Int → Int) (P : Nat) (u u' : uS) : Prop := DF u u' ∧ (∀ p : Nat, p < P → u'.1 72 p = b2 (gd p)) ∧ ((u'.1 64 4 = 1 ∧ D41 gd x P) ∨ (u'.1 64 4 = 0 ∧ ∃ (gr : Nat → Nat) (n : Nat), FPt gd x P gr n ∧ u'.1 64 14 = n ∧ ∀ p : Nat, p < P → u'.1 73 p = gr p))
set_option maxRecDepth 4000 in
theorem l_79 {d P : Nat} {gd : Nat → Bool} {x : Int → Int} {u : uS} (hx : DV u P x) : ∀ (r t s n : Nat) (v : uS) (gr : Nat → Nat), t + r = 410 → s ≤ 10 → n ≤ 40 → 1 ≤ n → t ≤ 10 * (n - 1) + s → DF u v → (∀ p : Nat, p < P → v.1 72 p = b2 (gd p)) → v.1 64 4 = 0 → v.1 64 14 = n → wayP gd x P gr → prt P gr n → (∀ p : Nat, p < P → v.1 73 p = gr p) → (∀ k : Nat, k < s → k < t → ∀ p q : Nat, p < P → q < P → gr p = gr q → gr (nxt x p ((t - 1 - k) % 10)) = gr (nxt x q ((t - 1 - k) % 10))) → s ≤ t → K_79 (d + 3) 81 [.ref 64, iV (s : Nat), iV (t : Nat), .retAddr 0] [] v (DVD gd x P u) := by
  have hnx := DV_n hx
  intro r
  induction r with
  | zero =>
    intro t s n v gr ht hs hn hn1 hb f1 f2 f3 f4 h1 h2 h3 h4 hst
    have : s = 10 := by omega
    omega
  | succ r ih =>
    intro t s n v gr ht hs hn hn1 hb f1 f2 f3 f4 h1 h2 h3 h4 hst
    refine k_79_81 ⟨⟨by omega, by omega⟩, ?_⟩
    by_cases cs : (s : Int) < 10
    · rw [if_pos cs]
      refine ⟨⟨by omega, by omega⟩, ?_⟩
      rw [if_pos f3]
      refine ⟨⟨by omega, by omega⟩, ?_⟩
      rw [if_pos (by omega)]
      have em : (t : Int).tmod 10 = ((t % 10 : Nat) : Int) := by
        rw [Int.tmod_eq_emod_of_nonneg (by omega)]
        omega
      rw [em]
      refine (q_82 (d := d) h1 (DV_of hx f1) hn f4 (fun p hp => ⟨h2.1 p hp, h3 p hp⟩) (show t % 10 < 10 by omega)).mono (Nat.le_refl _) (fun w hw => ?_)
      obtain ⟨w1, w2, w3⟩ := hw
      have wf := DF_trans f1 w1
      have w72 : ∀ p : Nat, p < P → w.1 72 p = b2 (gd p) := fun p hp => by rw [w2]; exact f2 p hp
      rcases w3 with ⟨a1, a3, a2⟩ | ⟨a1, gr', n', b1, b2', b3, b4, b5⟩
      · -- great: whatever the count says, the loop ends
        have hv14 := f4
        have fin : ∀ s' : Int, 0 ≤ s' → s' ≤ 10 → K_79 (d + 3) 81 [.ref 64, iV s', iV ((t : Int) + 1), .retAddr 0] [] w (DVD gd x P u) := by
          intro s' s0 s1
          refine k_79_81 ⟨⟨by omega, by omega⟩, ?_⟩
          have done : DVD gd x P u w := ⟨wf, w72, Or.inl ⟨a1, a2⟩⟩
          split
          · refine ⟨⟨by omega, by omega⟩, ?_⟩
            rw [if_neg (by omega)]
            exact done
          · exact done
        rw [a3]
        refine ⟨⟨by omega, by omega⟩, ⟨by omega, by omega⟩, ?_⟩
        rw [if_pos rfl]
        exact fin _ (by omega) (by omega)
      · have hle := prt_le h2 b3 (fun p q hp hq e => ((b4 p q hp hq).mp e).1)
        have hw' := wayP_s hnx h1 b4
        refine ⟨⟨by omega, by omega⟩, ⟨by omega, by omega⟩, ?_⟩
        by_cases ce : w.1 64 14 = v.1 64 14
        · rw [if_pos ce]
          have en : n' = n := by omega
          rw [en] at b3 b2'
          have heq := prt_eq h2 b3 (fun p q hp hq e => ((b4 p q hp hq).mp e).1)
          have h0 := ih (t + 1) (s + 1) n w gr' (by omega) (by omega) hn hn1 (by omega) wf w72 (by rw [a1]; exact f3) b2' hw' b3 b5 (fun k hk hk' p q hp hq e => ?_) (by omega)
          · exact h0
          · have e0 := (b4 p q hp hq).mp e
            by_cases ck : k = 0
            · rw [ck, show t + 1 - 1 - 0 = t by omega]
              have hc : t % 10 < 10 := by omega
              exact heq _ _ (hnx p _ hp hc) (hnx q _ hq hc) (e0.2 _ hc rfl)
            · have hc : (t + 1 - 1 - k) % 10 < 10 := by omega
              refine heq _ _ (hnx p _ hp hc) (hnx q _ hq hc) ?_
              have := h4 (k - 1) (by omega) (by omega) p q hp hq e0.1
              rw [show t - 1 - (k - 1) = t + 1 - 1 - k by omega] at this
              exact this
        · rw [if_neg ce]
          exact ih (t + 1) 0 n' w gr' (by omega) (by omega) b1 (by omega) (by omega) wf w72 (by rw [a1]; exact f3) b2' hw' b3 b5 (fun k hk => absurd hk (Nat.not_lt_zero k)) (by omega)
    · rw [if_neg cs]
      have es : s = 10 := by omega
      refine ⟨f1, f2, Or.inr ⟨f3, gr, n, wayP_end hnx h1 hn h2 (fun c hc p q hp hq e => ?_), f4, h3⟩⟩
      -- each letter is among the last ten
      obtain ⟨k, k1, k2⟩ : ∃ k : Nat, k < 10 ∧ (t - 1 - k) % 10 = c := ⟨(t - 1 + 10 - c) % 10, by omega, by omega⟩
      have := h4 k (by omega) (by omega) p q hp hq e
      rw [k2] at this
      exact this
set_option maxRecDepth 4000 in
theorem q_79 {d P : Nat} {gd : Nat → Bool} {x f g : Int → Int} {k : Int} {A B : Ma} {u : uS} (hx : DV u P x) (hH : mkH u k A B) (h4 : u.1 64 4 = 0) (hk : ∀ q : Nat, q < P → u.1 67 q = f q ∧ u.1 68 q = g q ∧ okK k A B (f q) (g q) ∧ gd q = gdK k A B (f q) (g q)) : cV (d + 4) 79 [.ref 64] u (DVD gd x P u) := by
  obtain ⟨P1, P2, P3, -⟩ := id hx
  have loop : ∀ (m k' : Nat) (v : uS), k' + m = P → DF u v → v.1 64 4 = 0 → v.1 64 14 = (mx0 gd k' : Nat) → (∀ p : Nat, p < k' → v.1 72 p = b2 (gd p) ∧ v.1 73 p = (gr0 gd p : Nat)) → K_79 (d + 3) 7 [.ref 64, iV (k' : Nat), .retAddr 0, .retAddr 0] [] v (DVD gd x P u) := by
    intro m
    induction m with
    | zero =>
      intro k' v hm f1 f2 f3 f4
      have e : k' = P := by omega
      rw [e] at f3 f4
      have h3 := (DV_of hx f1).2.2.1
      have hr := mx0_r gd P
      refine k_79_7 ⟨⟨by omega, by omega⟩, ⟨by omega, by omega⟩, ?_⟩
      rw [if_neg (by omega)]
      exact l_79 hx 410 0 0 (mx0 gd P) v (gr0 gd) (by omega) (by omega) (by omega) (by omega) (by omega) f1 (fun p hp => (f4 p hp).1) f2 f3 (wayP_0 gd x P) (prt_0 gd P1) (fun p hp => (f4 p hp).2) (fun k hk => absurd hk (Nat.not_lt_zero k)) (by omega)
    | succ m ih =>
      intro k' v hm f1 f2 f3 f4
      have hkP : k' < P := by omega
      have h3 := (DV_of hx f1).2.2.1
      have hr := mx0_r gd k'
      obtain ⟨a1, a2, a3, a4⟩ := hk k' hkP
      have hv67 : v.1 67 = u.1 67 := funext (fun j => f1.2 67 j (by decide) (fun e => absurd e (by decide)))
      have hv68 : v.1 68 = u.1 68 := funext (fun j => f1.2 68 j (by decide) (fun e => absurd e (by decide)))
      have hHv : mkH v k A B := mkH_of hH (by rw [f1.1]) (f1.2 64 0 (by decide) (fun _ => ⟨by decide, by decide⟩)) (fun b hb => funext (fun j => f1.2 b j (by simp only [List.mem_cons, List.not_mem_nil, or_false, not_or]; omega) (fun e => by omega)))
      refine k_79_7 ⟨⟨by omega, by omega⟩, ⟨by omega, by omega⟩, ?_⟩
      rw [if_pos (by omega)]
      refine (p_80 (d := d + 1) hHv (by omega) (by omega) (by rw [hv67]; exact a1) (by rw [hv68]; exact a2) a3).mono (Nat.le_refl _) (fun r u4 h => ?_)
      obtain ⟨h4', h5⟩ := h
      rw [← a4] at h5
      refine ⟨by omega, by omega, by rw [h5]; exact b2_r _, fun u9 e9 => ?_⟩
      rw [h4', h5] at e9
      have e72 : u9.1 72 k' = b2 (gd k') := by rw [e9, wr_self]
      have e720 : u9.1 72 0 = b2 (gd 0) := by
        by_cases c : k' = 0
        · rw [c] at e72
          exact e72
        · rw [e9, wr_1, if_neg (by omega)]
          exact (f4 0 (by omega)).1
      have hb := b2_r (gd k')
      have hb0 := b2_r (gd 0)
      rw [e72, e720]
      refine ⟨⟨by omega, by omega⟩, ⟨by omega, by omega⟩, ?_⟩
      have hif : (b2 (gd k') = b2 (gd 0)) ↔ gd k' = gd 0 := by
        cases gd k' <;> cases gd 0 <;> simp [b2]
      have next : ∀ (y : Nat) (u14 : uS), y = gr0 gd k' → u14 = wr u9 73 k' (y : Nat) → (rI (u14.1 64 14)) ∧ ((rI ((u14.1 73 k') + 1)) ∧ (∀ u18 : uS, u18 = wr u14 64 14 (max (u14.1 64 14) ((u14.1 73 k') + 1)) → (K_79 (d + 3) 7 [.ref 64, iV ((k' : Int) + 1), .retAddr 0, .retAddr 0] [] u18 (DVD gd x P u)))) := by
        intro y u14 ey e14
        have hy := gr0_r gd k'
        have k73 : u14.1 73 k' = y := by rw [e14, wr_self]
        have k64 : u14.1 64 = v.1 64 := by rw [e14, wr_ne (by decide), e9, wr_ne (by decide)]
        rw [k73, k64, f3]
        refine ⟨⟨by omega, by omega⟩, ⟨by omega, by omega⟩, fun u18 e18 => ?_⟩
        refine ih (k' + 1) u18 (by omega) (by rw [e18, e14, e9]; exact DF_64 (Or.inl rfl) (DF_wr (by decide) (DF_wr (by decide) f1))) (by rw [e18, wr_1, if_neg (by decide), k64]; exact f2) ?_ (fun p hp => ?_)
        · rw [e18, wr_self]
          show max ((mx0 gd k' : Nat) : Int) ((y : Int) + 1) = ((max (mx0 gd k') (gr0 gd k' + 1) : Nat) : Int)
          omega
        · rw [e18, wr_ne (by decide), wr_ne (by decide), e14, wr_uf, wr_ne (by decide)]
          by_cases e : p = k'
          · rw [e, uf_eq, ey]
            exact ⟨e72, rfl⟩
          · rw [uf_ne (by omega), e9, wr_uf, uf_ne (by omega), wr_ne (by decide)]
            exact f4 p (by omega)
      by_cases c : b2 (gd k') = b2 (gd 0)
      · rw [if_pos c]
        exact fun u14 e14 => next 0 u14 (by unfold gr0; rw [if_pos (hif.mp c)]) e14
      · rw [if_neg c]
        exact fun u14 e14 => next 1 u14 (by unfold gr0; rw [if_neg (fun h => c (hif.mpr h))]) e14
  refine e_79 (fun u1 e1 => ?_)
  exact loop P 0 u1 (by omega) (by rw [e1]; exact DF_64 (Or.inl rfl) (DF_refl u)) (by rw [e1, wr_1, if_neg (by decide)]; exact h4) (by rw [e1, wr_self]; rfl) (fun p hp => absurd hp (Nat.not_lt_zero p))
