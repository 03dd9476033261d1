/-! One side's dividing by a letter -/
/-- P places and their steps -/
def DV (u : uS) (P : Nat) (x : Int → Int) : Prop := 1 ≤ P ∧ P ≤ 2000 ∧ u.1 64 3 = P ∧ ∀ j : Nat, j < 10 * P → u.1 69 j = x j ∧ 0 ≤ x j ∧ x j < P
theorem DV_n {u : uS} {P : Nat} {x : Int → Int} (h : DV u P x) : ∀ p c : Nat, p < P → c < 10 → nxt x p c < P := fun p c hp hc => by
  have := h.2.2.2 (10 * p + c) (by omega)
  unfold nxt
  omega
theorem DV_x {u : uS} {P : Nat} {x : Int → Int} (h : DV u P x) {p c : Nat} (hp : p < P) (hc : c < 10) : u.1 69 ((p : Int) * 10 + (c : Int)) = (nxt x p c : Nat) := by
  have := h.2.2.2 (10 * p + c) (by omega)
  unfold nxt
  rw [show (p : Int) * 10 + (c : Int) = ((10 * p + c : Nat) : Int) by omega]
  omega
def DF (u u' : uS) : Prop := u'.2 = u.2 ∧ ∀ (b : Nat) (j : Int), b ∉ [72, 73, 74, 75] → (b = 64 → j ≠ 14 ∧ j ≠ 4) → u'.1 b j = u.1 b j
theorem DF_refl (u : uS) : DF u u := ⟨rfl, fun _ _ _ _ => rfl⟩
theorem DF_trans {u v w : uS} (h : DF u v) (h' : DF v w) : DF u w := ⟨h'.1.trans h.1, fun b j hb hj => (h'.2 b j hb hj).trans (h.2 b j hb hj)⟩
theorem DF_wr {u v : uS} {a : Nat} {i y : Int} (ha : a ∈ [72, 73, 74, 75]) (h : DF u v) : DF u (wr v a i y) := ⟨h.1, fun b j hb hj => by
  rw [wr_ne (fun e => hb (by rw [e]; exact ha))]
  exact h.2 b j hb hj⟩
theorem DF_64 {u v : uS} {i y : Int} (hi : i = 14 ∨ i = 4) (h : DF u v) : DF u (wr v 64 i y) := ⟨h.1, fun b j hb hj => by
  rw [wr_1, if_neg (fun e => by have := hj e.1; omega)]
  exact h.2 b j hb hj⟩
theorem DV_of {u u' : uS} {P : Nat} {x : Int → Int} (h : DV u P x) (hf : DF u u') : DV u' P x := by
  have h3 : u'.1 64 3 = u.1 64 3 := hf.2 64 3 (by decide) (fun _ => ⟨by decide, by decide⟩)
  have h69 : u'.1 69 = u.1 69 := funext (fun j => hf.2 69 j (by decide) (fun e => absurd e (by decide)))
  unfold DV at *
  rw [h3, h69]
  exact h
/-- what a round by a letter leaves -/
def RDm (gd : Nat → Bool) (x : Int → Int) (P : Nat) (gr : Nat → Nat) (c : Nat) (u u' : uS) : Prop := DF u u' ∧ u'.1 72 = u.1 72 ∧ ((u'.1 64 4 = 1 ∧ u'.1 64 14 = u.1 64 14 ∧ D41 gd x P) ∨ (u'.1 64 4 = u.1 64 4 ∧ ∃ (gr' : Nat → Nat) (n' : Nat), n' ≤ 40 ∧ u'.1 64 14 = n' ∧ prt P gr' n' ∧ rnd x P gr gr' (fun e => e = c) ∧ ∀ p : Nat, p < P → u'.1 73 p = gr' p))
set_option maxRecDepth 4000 in
theorem l_82 {d P n c : Nat} {gd : Nat → Bool} {x : Int → Int} {gr : Nat → Nat} {u : uS} (hw : wayP gd x P gr) (hx : DV u P x) (hn : n ≤ 40) (hg : ∀ p : Nat, p < P → gr p < n ∧ u.1 73 p = gr p) (hc : c < 10) : ∀ (r k m : Nat) (v : uS), k + r = P → m ≤ 40 → DF u v → v.1 72 = u.1 72 → v.1 73 = u.1 73 → v.1 64 = u.1 64 → (∀ j : Nat, j < k → 0 ≤ v.1 74 j ∧ v.1 74 j < m ∧ v.1 75 ((gr j * 41 + gr (nxt x j c) : Nat) : Int) = v.1 74 j + 1) → (∀ y : Nat, y < 41 * n → (∀ j : Nat, j < k → gr j * 41 + gr (nxt x j c) ≠ y) → v.1 75 y = 0) → (∀ y : Nat, y < m → ∃ j : Nat, j < k ∧ v.1 74 j = y) → (∀ j j' : Nat, j < k → j' < k → v.1 74 j = v.1 74 j' → gr j * 41 + gr (nxt x j c) = gr j' * 41 + gr (nxt x j' c)) → K_82 (d + 2) 20 [.ref 64, iV (c : Nat), iV (m : Nat), iV (k : Nat), .retAddr 0] [] v (RDm gd x P gr c u) := by
  have hnx := DV_n hx
  obtain ⟨P1, P2, -, -⟩ := id hx
  intro r
  induction r with
  | zero =>
    intro k m v hk hm f1 f2 f3 f4 ia ib ic id'
    have ek : k = P := by omega
    rw [ek] at ia ib ic id'
    have h3 := (DV_of hx f1).2.2.1
    refine k_82_20 ⟨⟨by omega, by omega⟩, ⟨by omega, by omega⟩, ?_⟩
    rw [if_neg (by omega)]
    intro u24 e24
    have h3' : u24.1 64 3 = P := by rw [e24, wr_1, if_neg (by decide)]; exact h3
    refine ⟨by omega, by omega, fun u28 e28 => ?_⟩
    have h73 : ∀ p : Nat, p < P → u28.1 73 p = v.1 74 p := by
      intro p hp
      rw [e28]
      show (if (73 : Nat) = 73 ∧ (0 : Int) ≤ (p : Int) ∧ (p : Int) < 0 + u24.1 64 3 then u24.1 74 (0 + ((p : Int) - 0)) else u24.1 73 p) = _
      rw [if_pos ⟨rfl, by omega, by omega⟩, e24, wr_ne (by decide), show (0 : Int) + ((p : Int) - 0) = p by omega]
    have hne : ∀ b : Nat, b ≠ 73 → u28.1 b = u24.1 b := by
      intro b hb
      rw [e28]
      funext j
      show (if b = 73 ∧ _ then _ else _) = _
      rw [if_neg (fun hh => hb hh.1)]
    have D28 : DF u u28 := by
      have := DF_64 (i := 14) (y := (m : Int)) (Or.inl rfl) f1
      rw [← e24] at this
      refine ⟨?_, fun b j hb hj => ?_⟩
      · rw [e28]
        exact this.1
      · rw [hne b (fun e => hb (by rw [e]; decide))]
        exact this.2 b j hb hj
    refine ⟨D28, ?_, Or.inr ⟨?_, fun p => (v.1 74 p).toNat, m, hm, ?_, ⟨fun p hp => ?_, fun y hy => ?_⟩, fun p q hp hq => ?_, fun p hp => ?_⟩⟩
    · rw [hne 72 (by decide), e24, wr_ne (by decide)]; exact f2
    · rw [hne 64 (by decide), e24, wr_1, if_neg (by decide), f4]
    · rw [hne 64 (by decide), e24, wr_self]
    · have := ia p hp
      show (v.1 74 p).toNat < m
      omega
    · obtain ⟨j, j1, j2⟩ := ic y hy
      exact ⟨j, j1, by show (v.1 74 j).toNat = y; omega⟩
    · have ap := ia p hp
      have aq := ia q hq
      have gp := (hg p hp).1
      have gq := (hg q hq).1
      have g2p := (hg _ (hnx p c hp hc)).1
      have g2q := (hg _ (hnx q c hq hc)).1
      show (v.1 74 p).toNat = (v.1 74 q).toNat ↔ _
      constructor
      · intro e
        have := id' p q hp hq (by omega)
        refine ⟨by omega, fun c' _ e' => ?_⟩
        rw [e']
        omega
      · rintro ⟨e1, e2⟩
        have e2 := e2 c hc rfl
        have e3 : v.1 75 ((gr p * 41 + gr (nxt x p c) : Nat) : Int) = v.1 75 ((gr q * 41 + gr (nxt x q c) : Nat) : Int) := by rw [e1, e2]
        omega
    · rw [h73 p hp]
      have := ia p hp
      show _ = (((v.1 74 p).toNat : Nat) : Int)
      omega
  | succ r ih =>
    intro k m v hk hm f1 f2 f3 f4 ia ib ic id'
    have hkP : k < P := by omega
    have hv := DV_of hx f1
    have h3 := hv.2.2.1
    have e69 := DV_x hv hkP hc
    have n1 := hnx k c hkP hc
    have g1 := hg k hkP
    have g2 := hg _ n1
    refine k_82_20 ⟨⟨by omega, by omega⟩, ⟨by omega, by omega⟩, ?_⟩
    rw [if_pos (by omega), e69, f3, g1.2, g2.2]
    have ey : ((gr k : Nat) : Int) * 41 + ((gr (nxt x k c) : Nat) : Int) = ((gr k * 41 + gr (nxt x k c) : Nat) : Int) := by omega
    rw [ey]
    generalize hy : gr k * 41 + gr (nxt x k c) = y
    have hyn : y < 41 * n := by
      have := Nat.mul_le_mul_right 41 (show gr k + 1 ≤ n by omega)
      omega
    have hyb : y < 1681 := by omega
    -- a pair that is there has a place before
    have hthere : v.1 75 y ≠ 0 → ∃ j : Nat, j < k ∧ gr j * 41 + gr (nxt x j c) = y := by
      intro hne
      refine Classical.byContradiction (fun hc' => hne (ib y hyn (fun j hj e => hc' ⟨j, hj, e⟩)))
    have hr75 : 0 ≤ v.1 75 y ∧ v.1 75 y ≤ 40 := by
      by_cases c0 : v.1 75 y = 0
      · rw [c0]; exact ⟨by omega, by omega⟩
      · obtain ⟨j, j1, j2⟩ := hthere c0
        have := ia j j1
        rw [j2] at this
        omega
    refine ⟨by omega, by omega, by omega, by omega, by omega, by omega, by omega, by omega, ⟨by omega, by omega⟩, ?_⟩
    by_cases c0 : v.1 75 y = 0
    · rw [if_pos c0]
      have hnew : ∀ j : Nat, j < k → gr j * 41 + gr (nxt x j c) ≠ y := by
        intro j hj e
        have := ia j hj
        rw [e] at this
        omega
      refine ⟨⟨by omega, by omega⟩, ?_⟩
      by_cases cm : (m : Int) < 40
      · rw [if_pos cm]
        intro u16 e16 u18 e18
        have h75 : u18.1 75 = uf (v.1 75) y ((m : Int) + 1) := by rw [e18, wr_ne (by decide), e16, wr_uf]
        have h74 : u18.1 74 = uf (v.1 74) k m := by
          rw [e18, wr_uf, e16, wr_self, wr_ne (by decide)]
          congr 1
          omega
        have hoth : ∀ b : Nat, b ≠ 74 → b ≠ 75 → u18.1 b = v.1 b := fun b hb hb' => by rw [e18, wr_ne hb, e16, wr_ne hb']
        have h0 := ih (k + 1) (m + 1) u18 (by omega) (by omega) (by rw [e18, e16]; exact DF_wr (by decide) (DF_wr (by decide) f1)) (by rw [hoth 72 (by decide) (by decide)]; exact f2) (by rw [hoth 73 (by decide) (by decide)]; exact f3) (by rw [hoth 64 (by decide) (by decide)]; exact f4) (fun j hj => ?_) (fun z hz hno => ?_) (fun z hz => ?_) (fun j j' hj hj' e => ?_)
        · exact h0
        · rw [h74, h75]
          by_cases e : j = k
          · rw [e, uf_eq, hy, uf_eq]
            exact ⟨by omega, by omega, rfl⟩
          · have a1 := ia j (by omega)
            have a2 := hnew j (by omega)
            rw [uf_ne (by omega), uf_ne (by omega)]
            exact ⟨a1.1, by omega, a1.2.2⟩
        · rw [h75]
          have hk' := hno k (by omega)
          rw [hy] at hk'
          rw [uf_ne (by omega)]
          exact ib z hz (fun j hj => hno j (by omega))
        · rw [h74]
          by_cases e : z = m
          · exact ⟨k, by omega, by rw [uf_eq, e]⟩
          · obtain ⟨j, j1, j2⟩ := ic z (by omega)
            exact ⟨j, by omega, by rw [uf_ne (by omega)]; exact j2⟩
        · rw [h74] at e
          by_cases e1 : j = k
          · by_cases e2 : j' = k
            · rw [e1, e2]
            · rw [e1, uf_eq, uf_ne (by omega)] at e
              have := ia j' (by omega)
              omega
          · by_cases e2 : j' = k
            · rw [e2, uf_eq, uf_ne (by omega)] at e
              have := ia j (by omega)
              omega
            · rw [uf_ne (by omega), uf_ne (by omega)] at e
              exact id' j j' (by omega) (by omega) e
      · rw [if_neg cm]
        intro u20 e20
        refine ⟨by rw [e20]; exact DF_64 (Or.inr rfl) f1, by rw [e20, wr_ne (by decide)]; exact f2, Or.inl ⟨by rw [e20, wr_self], by rw [e20, wr_1, if_neg (by decide), f4], ?_⟩⟩
        have hm40 : m = 40 := by omega
        have hch : ∀ y : Nat, ∃ j : Nat, y < 40 → j < k ∧ v.1 74 j = y := by
          intro z
          by_cases cz : z < 40
          · obtain ⟨j, hj⟩ := ic z (by omega)
            exact ⟨j, fun _ => hj⟩
          · exact ⟨0, fun h => absurd h cz⟩
        obtain ⟨ch, hch⟩ := Classical.axiomOfChoice hch
        have hpr : ∀ p q : Nat, p < P → q < P → nE gd x p q → gr p * 41 + gr (nxt x p c) = gr q * 41 + gr (nxt x q c) := by
          intro p q hp hq e
          rw [hw.1 p q hp hq e, hw.1 _ _ (hnx p c hp hc) (hnx q c hq hc) (nE_go e hc)]
        refine ⟨fun i => if i < 40 then ch i else k, fun i hi => ?_, fun i j hij hj e => ?_⟩
        · show (if i < 40 then ch i else k) < P
          split
          · next h => have := (hch i h).1; omega
          · exact hkP
        · have hi40 : i < 40 := by omega
          have e' : nE gd x (ch i) (if j < 40 then ch j else k) := by
            have e : nE gd x (if i < 40 then ch i else k) (if j < 40 then ch j else k) := e
            rw [if_pos hi40] at e
            exact e
          have a1 := hch i hi40
          by_cases cj : j < 40
          · rw [if_pos cj] at e'
            have a2 := hch j cj
            have h1 := hpr _ _ (by omega) (by omega) e'
            have b1 := ia (ch i) a1.1
            have b2 := ia (ch j) a2.1
            rw [h1] at b1
            omega
          · rw [if_neg cj] at e'
            have h1 := hpr _ _ (by omega) hkP e'
            exact hnew _ a1.1 (by rw [h1]; exact hy)
    · rw [if_neg c0]
      obtain ⟨j0, j1, j2⟩ := hthere c0
      have aj := ia j0 j1
      rw [j2] at aj
      intro u22 e22
      have h74 : u22.1 74 = uf (v.1 74) k (v.1 75 y - 1) := by rw [e22, wr_uf]
      have hoth : ∀ b : Nat, b ≠ 74 → u22.1 b = v.1 b := fun b hb => by rw [e22, wr_ne hb]
      have h0 := ih (k + 1) m u22 (by omega) hm (by rw [e22]; exact DF_wr (by decide) f1) (by rw [hoth 72 (by decide)]; exact f2) (by rw [hoth 73 (by decide)]; exact f3) (by rw [hoth 64 (by decide)]; exact f4) (fun j hj => ?_) (fun z hz hno => ?_) (fun z hz => ?_) (fun j j' hj hj' e => ?_)
      · exact h0
      · rw [h74, hoth 75 (by decide)]
        by_cases e : j = k
        · rw [e, uf_eq, hy]
          exact ⟨by omega, by omega, by omega⟩
        · rw [uf_ne (by omega)]
          exact ia j (by omega)
      · rw [hoth 75 (by decide)]
        exact ib z hz (fun j hj => hno j (by omega))
      · obtain ⟨j, q1, q2⟩ := ic z hz
        exact ⟨j, by omega, by rw [h74, uf_ne (by omega)]; exact q2⟩
      · rw [h74] at e
        have hval : v.1 75 y - 1 = v.1 74 j0 := by omega
        by_cases e1 : j = k
        · by_cases e2 : j' = k
          · rw [e1, e2]
          · rw [e1, uf_eq, uf_ne (by omega), hval] at e
            rw [e1, hy, ← j2]
            exact id' j0 j' j1 (by omega) e
        · by_cases e2 : j' = k
          · rw [e2, uf_eq, uf_ne (by omega), hval] at e
            rw [e2, hy, ← j2]
            exact id' j j0 (by omega) j1 e
          · rw [uf_ne (by omega), uf_ne (by omega)] at e
            exact id' j j' (by omega) (by omega) e
set_option maxRecDepth 4000 in
theorem q_82 {d P n c : Nat} {gd : Nat → Bool} {x : Int → Int} {gr : Nat → Nat} {u : uS} (hw : wayP gd x P gr) (hx : DV u P x) (hn : n ≤ 40) (h14 : u.1 64 14 = n) (hg : ∀ p : Nat, p < P → gr p < n ∧ u.1 73 p = gr p) (hc : c < 10) : cV (d + 3) 82 [.ref 64, iV (c : Nat)] u (RDm gd x P gr c u) := by
  refine e_82 ⟨by omega, by omega, fun u3 e3 => ?_⟩
  have hoth : ∀ b : Nat, b ≠ 75 → u3.1 b = u.1 b := by
    intro b hb
    rw [e3]
    funext j
    show (if b = 75 ∧ _ then _ else _) = _
    rw [if_neg (fun hh => hb hh.1)]
  have D3 : DF u u3 := ⟨by rw [e3]; rfl, fun b j hb _ => by rw [hoth b (fun e => hb (by rw [e]; decide))]⟩
  refine l_82 hw hx hn hg hc P 0 0 u3 (by omega) (by omega) D3 (hoth 72 (by decide)) (hoth 73 (by decide)) (hoth 64 (by decide)) (fun j hj => absurd hj (Nat.not_lt_zero j)) (fun y hy _ => ?_) (fun y hy => absurd hy (Nat.not_lt_zero y)) (fun j _ hj => absurd hj (Nat.not_lt_zero j))
  rw [e3]
  show (if (75 : Nat) = 75 ∧ (0 : Int) ≤ (y : Int) ∧ (y : Int) < u.1 64 14 * 41 then (0 : Int) else _) = 0
  rw [if_pos ⟨rfl, by omega, by omega⟩]
