/-! The other side's dividing -/
def EV (u : uS) (P : Nat) (x : Int → Int) : Prop := 1 ≤ P ∧ P ≤ 2000 ∧ u.1 271 44 = P ∧ ∀ j : Nat, j < 10 * P → u.1 306 j = x j ∧ 0 ≤ x j ∧ x j < P
theorem EV_n {u : uS} {P : Nat} {x : Int → Int} (h : EV u P x) : ∀ p c : Nat, p < P → c < 10 → nxt x p c < P := fun p c hp hc => by
  have := h.2.2.2 (10 * p + c) (by omega)
  unfold nxt
  omega
theorem EV_x {u : uS} {P : Nat} {x : Int → Int} (h : EV u P x) {p c : Nat} (hp : p < P) (hc : c < 10) : u.1 306 (10 * (p : Int) + (c : Int)) = (nxt x p c : Nat) := by
  have := h.2.2.2 (10 * p + c) (by omega)
  unfold nxt
  rw [show 10 * (p : Int) + (c : Int) = ((10 * p + c : Nat) : Int) by omega]
  omega
theorem EV_of {u u' : uS} {P : Nat} {x : Int → Int} (h : EV u P x) (h44 : u'.1 271 44 = u.1 271 44) (h306 : u'.1 306 = u.1 306) : EV u' P x := by
  unfold EV at *
  rw [h44, h306]
  exact h
/-- alike in their groups and in those of their steps -/
def SG (x : Int → Int) (gr : Nat → Nat) (p q : Nat) : Prop := gr p = gr q ∧ ∀ c, c < 10 → gr (nxt x p c) = gr (nxt x q c)
theorem SG_symm {x : Int → Int} {gr : Nat → Nat} {p q : Nat} (h : SG x gr p q) : SG x gr q p := ⟨h.1.symm, fun c hc => (h.2 c hc).symm⟩
theorem SG_trans {x : Int → Int} {gr : Nat → Nat} {p q r : Nat} (h : SG x gr p q) (h' : SG x gr q r) : SG x gr p r := ⟨h.1.trans h'.1, fun c hc => (h.2 c hc).trans (h'.2 c hc)⟩
theorem SG_nE {gd : Nat → Bool} {x : Int → Int} {P : Nat} {gr : Nat → Nat} (hx : ∀ p c, p < P → c < 10 → nxt x p c < P) (hw : wayP gd x P gr) {p q : Nat} (hp : p < P) (hq : q < P) (h : nE gd x p q) : SG x gr p q := ⟨hw.1 p q hp hq h, fun c hc => hw.1 _ _ (hx p c hp hc) (hx q c hq hc) (nE_go h hc)⟩
set_option maxRecDepth 4000 in
theorem q_251 {d P p q : Nat} {x : Int → Int} {gr : Nat → Nat} {u : uS} (hx : EV u P x) (hg : ∀ p : Nat, p < P → u.1 309 p = gr p ∧ gr p ≤ 2000) (hp : p < P) (hq : q < P) : cI (d + 1) 251 [.ref 271, iV (p : Nat), iV (q : Nat)] u (fun r u' => u' = u ∧ ((r = 1 ∧ SG x gr p q) ∨ (r = 0 ∧ ¬ SG x gr p q))) := by
  have hnx := EV_n hx
  have P2 := hx.2.1
  have gp := hg p hp
  have gq := hg q hq
  refine e_251 ⟨by omega, by omega, by omega, by omega, ⟨by omega, by omega⟩, ⟨by omega, by omega⟩, ?_⟩
  by_cases c0 : u.1 309 p = u.1 309 q
  · rw [if_pos c0]
    have e0 : gr p = gr q := by omega
    have loop : ∀ (m k : Nat), k + m = 10 → (∀ c, c < k → gr (nxt x p c) = gr (nxt x q c)) → K_251 d 19 [.ref 271, iV (p : Nat), iV (q : Nat), iV (k : Nat)] [] u (fun r u' => u' = u ∧ ((r = 1 ∧ SG x gr p q) ∨ (r = 0 ∧ ¬ SG x gr p q))) := by
      intro m
      induction m with
      | zero =>
        intro k hk h
        refine k_251_19 ⟨⟨by omega, by omega⟩, ?_⟩
        rw [if_neg (by omega)]
        exact ⟨rfl, Or.inl ⟨rfl, e0, fun c hc => h c (by omega)⟩⟩
      | succ m ih =>
        intro k hk h
        have np := hnx p k hp (by omega)
        have nq := hnx q k hq (by omega)
        have hp' := hg _ np
        have hq' := hg _ nq
        refine k_251_19 ⟨⟨by omega, by omega⟩, ?_⟩
        rw [if_pos (by omega), EV_x hx hp (by omega), EV_x hx hq (by omega)]
        refine ⟨by omega, by omega, by omega, by omega, by omega, by omega, by omega, by omega, ⟨by omega, by omega⟩, ⟨by omega, by omega⟩, ?_⟩
        by_cases ck : u.1 309 (nxt x p k : Nat) = u.1 309 (nxt x q k : Nat)
        · rw [if_pos ck]
          refine ih (k + 1) (by omega) (fun c hc => ?_)
          by_cases e : c = k
          · rw [e]; omega
          · exact h c (by omega)
        · rw [if_neg ck]
          refine ⟨rfl, Or.inr ⟨rfl, fun hs => ck ?_⟩⟩
          have := hs.2 k (by omega)
          omega
    exact loop 10 0 (by omega) (fun c hc => absurd hc (Nat.not_lt_zero c))
  · rw [if_neg c0]
    exact ⟨rfl, Or.inr ⟨rfl, fun hs => c0 (by have := hs.1; omega)⟩⟩
def EF (u u' : uS) : Prop := u'.2 = u.2 ∧ ∀ b : Nat, b ∉ [309, 310, 311] → u'.1 b = u.1 b
theorem EF_refl (u : uS) : EF u u := ⟨rfl, fun _ _ => rfl⟩
theorem EF_trans {u v w : uS} (h : EF u v) (h' : EF v w) : EF u w := ⟨h'.1.trans h.1, fun b hb => (h'.2 b hb).trans (h.2 b hb)⟩
theorem EF_wr {u v : uS} {a : Nat} {i y : Int} (ha : a ∈ [309, 310, 311]) (h : EF u v) : EF u (wr v a i y) := ⟨h.1, fun b hb => by
  rw [wr_ne (fun e => hb (by rw [e]; exact ha))]
  exact h.2 b hb⟩
theorem EV_EF {u u' : uS} {P : Nat} {x : Int → Int} (h : EV u P x) (hf : EF u u') : EV u' P x := EV_of h (by rw [hf.2 271 (by decide)]) (hf.2 306 (by decide))
/-- what a round leaves -/
def RE (gd : Nat → Bool) (x : Int → Int) (P : Nat) (gr : Nat → Nat) (u : uS) (r : Int) (u' : uS) : Prop := EF u u' ∧ ((r = 41 ∧ D41 gd x P) ∨ ∃ (gr' : Nat → Nat) (n' : Nat), r = n' ∧ n' ≤ 40 ∧ prt P gr' n' ∧ rnd x P gr gr' (fun _ => True) ∧ (∀ p : Nat, p < P → u'.1 309 p = gr' p) ∧ ∀ y : Nat, y < n' → ∃ ch : Nat, u'.1 311 y = ch ∧ ch < P ∧ gr' ch = y)
/-- where a round stands at place k with n chiefs -/
def RS (x : Int → Int) (gr : Nat → Nat) (u v : uS) (k n : Nat) : Prop := EF u v ∧ v.1 309 = u.1 309 ∧ n ≤ 41 ∧ (∀ y : Nat, y < n → ∃ ch : Nat, v.1 311 y = ch ∧ ch < k ∧ v.1 310 ch = y) ∧ (∀ j : Nat, j < k → ∃ y ch : Nat, v.1 310 j = y ∧ y < n ∧ v.1 311 y = ch ∧ SG x gr j ch) ∧ (∀ y y' ch ch' : Nat, y < y' → y' < n → v.1 311 y = ch → v.1 311 y' = ch' → ¬ SG x gr ch ch')
theorem RS_41 {gd : Nat → Bool} {x : Int → Int} {P k : Nat} {gr : Nat → Nat} {u v : uS} (hx : ∀ p c, p < P → c < 10 → nxt x p c < P) (hw : wayP gd x P gr) (h : RS x gr u v k 41) (hk : k ≤ P) : D41 gd x P := by
  obtain ⟨-, -, -, h1, -, h3⟩ := h
  have hch : ∀ y : Nat, ∃ c : Nat, y < 41 → v.1 311 y = c ∧ c < k := by
    intro y
    by_cases cy : y < 41
    · obtain ⟨c, c1, c2, -⟩ := h1 y cy
      exact ⟨c, fun _ => ⟨c1, c2⟩⟩
    · exact ⟨0, fun hh => absurd hh cy⟩
  obtain ⟨ch, hch⟩ := Classical.axiomOfChoice hch
  refine ⟨ch, fun i hi => by have := (hch i hi).2; omega, fun i j hij hj e => ?_⟩
  have a := hch i (by omega)
  have b := hch j hj
  exact h3 i j _ _ hij hj a.1 b.1 (SG_nE hx hw (by omega) (by omega) e)
set_option maxRecDepth 4000 in
theorem q_250 {d P : Nat} {gd : Nat → Bool} {x : Int → Int} {gr : Nat → Nat} {u : uS} (hx : EV u P x) (hw : wayP gd x P gr) (hg : ∀ p : Nat, p < P → u.1 309 p = gr p ∧ gr p ≤ 2000) : cI (d + 2) 250 [.ref 271] u (RE gd x P gr u) := by
  have hnx := EV_n hx
  obtain ⟨P1, P2, P3, -⟩ := id hx
  -- the copying
  have copy : ∀ (n : Nat) (v : uS), n ≤ 41 → RS x gr u v P n → ∀ (m k : Nat) (w : uS), k + m = P → EF v w → w.1 310 = v.1 310 → w.1 311 = v.1 311 → (∀ j : Nat, j < k → w.1 309 j = v.1 310 j) → K_250 (d + 1) 101 [.ref 271, iV (n : Nat), iV (k : Nat), .retAddr 0, .retAddr 0] [] w (RE gd x P gr u) := by
    intro n v hn hv m
    obtain ⟨v1, v2, v3, v4, v5, v6⟩ := id hv
    induction m with
    | zero =>
      intro k w hk f1 f2 f3 f4
      have ek : k = P := by omega
      have h44 : w.1 271 44 = P := by rw [(EF_trans v1 f1).2 271 (by decide)]; exact P3
      refine k_250_101 ⟨⟨by omega, by omega⟩, ⟨by omega, by omega⟩, ?_⟩
      rw [if_neg (by omega)]
      refine ⟨EF_trans v1 f1, ?_⟩
      by_cases c41 : n = 41
      · rw [c41] at hv
        exact Or.inl ⟨by omega, RS_41 hnx hw hv (Nat.le_refl P)⟩
      · refine Or.inr ⟨fun p => (v.1 310 p).toNat, n, rfl, by omega, ⟨fun p hp => ?_, fun y hy => ?_⟩, fun p q hp hq => ?_, fun p hp => ?_, fun y hy => ?_⟩
        · obtain ⟨y, ch, y1, y2, -⟩ := v5 p hp
          show (v.1 310 p).toNat < n
          omega
        · obtain ⟨ch, c1, c2, c3⟩ := v4 y hy
          exact ⟨ch, c2, by show (v.1 310 ch).toNat = y; omega⟩
        · obtain ⟨y, ch, y1, y2, y3, y4⟩ := v5 p hp
          obtain ⟨y', ch', z1, z2, z3, z4⟩ := v5 q hq
          show (v.1 310 p).toNat = (v.1 310 q).toNat ↔ gr p = gr q ∧ ∀ c, c < 10 → True → gr (nxt x p c) = gr (nxt x q c)
          have key : (v.1 310 p).toNat = (v.1 310 q).toNat ↔ SG x gr p q := by
            constructor
            · intro e
              have ey : y = y' := by omega
              rw [ey] at y3
              have ec : ch = ch' := by omega
              rw [ec] at y4
              exact SG_trans y4 (SG_symm z4)
            · intro e
              have hs : SG x gr ch ch' := SG_trans (SG_symm y4) (SG_trans e z4)
              by_cases c1 : y < y'
              · exact absurd hs (v6 y y' ch ch' c1 z2 y3 z3)
              · by_cases c2 : y' < y
                · exact absurd (SG_symm hs) (v6 y' y ch' ch c2 y2 z3 y3)
                · omega
          rw [key]
          exact ⟨fun hh => ⟨hh.1, fun c hc _ => hh.2 c hc⟩, fun hh => ⟨hh.1, fun c hc => hh.2 c hc trivial⟩⟩
        · obtain ⟨y, ch, y1, y2, -⟩ := v5 p hp
          rw [f4 p (by omega)]
          show v.1 310 p = (((v.1 310 p).toNat : Nat) : Int)
          omega
        · obtain ⟨ch, c1, c2, c3⟩ := v4 y hy
          exact ⟨ch, by rw [f3]; exact c1, c2, by show (v.1 310 ch).toNat = y; omega⟩
    | succ m ih =>
      intro k w hk f1 f2 f3 f4
      have h44 : w.1 271 44 = P := by rw [(EF_trans v1 f1).2 271 (by decide)]; exact P3
      refine k_250_101 ⟨⟨by omega, by omega⟩, ⟨by omega, by omega⟩, ?_⟩
      rw [if_pos (by omega)]
      refine ⟨by omega, by omega, fun u6 e6 => ?_⟩
      refine ih (k + 1) u6 (by omega) (by rw [e6]; exact EF_wr (by decide) f1) (by rw [e6, wr_ne (by decide)]; exact f2) (by rw [e6, wr_ne (by decide)]; exact f3) (fun j hj => ?_)
      rw [e6, wr_uf, f2]
      by_cases e : j = k
      · rw [e, uf_eq]
      · rw [uf_ne (by omega)]; exact f4 j (by omega)
  -- the rounds over places
  have loop : ∀ (m k n : Nat) (v : uS), k + m = P → RS x gr u v k n → K_250 (d + 1) 4 [.ref 271, iV (n : Nat), iV (k : Nat), .retAddr 0, .retAddr 0] [] v (RE gd x P gr u) := by
    intro m
    induction m with
    | zero =>
      intro k n v hk hv
      have ek : k = P := by omega
      rw [ek] at hv
      have h44 : v.1 271 44 = P := by rw [hv.1.2 271 (by decide)]; exact P3
      refine k_250_4 ⟨⟨by omega, by omega⟩, ⟨by omega, by omega⟩, ?_⟩
      rw [if_neg (by omega)]
      exact copy n v hv.2.2.1 hv P 0 v (by omega) (EF_refl v) rfl rfl (fun j hj => absurd hj (Nat.not_lt_zero j))
    | succ m ih =>
      intro k n v hk hv
      obtain ⟨v1, v2, v3, v4, v5, v6⟩ := id hv
      have hkP : k < P := by omega
      have h44 : v.1 271 44 = P := by rw [v1.2 271 (by decide)]; exact P3
      -- a chief is found
      have found : ∀ (y ch : Nat) (w : uS), y < n → v.1 311 y = ch → SG x gr k ch → w = wr v 310 k (y : Nat) → K_250 (d + 1) 4 [.ref 271, iV (n : Nat), iV ((k : Int) + 1), .retAddr 0, .retAddr 0] [] w (RE gd x P gr u) := by
        intro y ch w hy hch hs ew
        have h310 : w.1 310 = uf (v.1 310) k (y : Nat) := by rw [ew, wr_uf]
        have h311 : w.1 311 = v.1 311 := by rw [ew, wr_ne (by decide)]
        refine ih (k + 1) n w (by omega) ⟨by rw [ew]; exact EF_wr (by decide) v1, by rw [ew, wr_ne (by decide)]; exact v2, v3, fun y' hy' => ?_, fun j hj => ?_, by rw [h311]; exact v6⟩
        · obtain ⟨c', c1, c2, c3⟩ := v4 y' hy'
          exact ⟨c', by rw [h311]; exact c1, by omega, by rw [h310, uf_ne (by omega)]; exact c3⟩
        · rw [h310, h311]
          by_cases e : j = k
          · rw [e, uf_eq]
            exact ⟨y, ch, rfl, hy, hch, hs⟩
          · rw [uf_ne (by omega)]
            exact v5 j (by omega)
      have inner : ∀ (r t : Nat), t + r = n → (∀ y ch : Nat, y < t → v.1 311 y = ch → ¬ SG x gr k ch) → K_250 (d + 1) 18 [.ref 271, iV (n : Nat), iV (k : Nat), iV (-2), iV (t : Nat)] [] v (RE gd x P gr u) := by
        intro r
        induction r with
        | zero =>
          intro t ht hno
          have et : t = n := by omega
          rw [et] at hno
          refine k_250_18 ⟨⟨by omega, by omega⟩, ⟨by omega, by omega⟩, ?_⟩
          rw [if_neg (by omega)]
          refine ⟨⟨by omega, by omega⟩, ?_⟩
          rw [if_pos rfl]
          by_cases c41 : (n : Int) = 41
          · rw [if_pos c41]
            have e41 : n = 41 := by omega
            rw [e41] at hv
            exact ⟨v1, Or.inl ⟨rfl, RS_41 hnx hw hv (by omega)⟩⟩
          · rw [if_neg c41]
            refine ⟨by omega, by omega, fun u22 e22 => ⟨by omega, by omega, fun u26 e26 => ?_⟩⟩
            have h310 : u26.1 310 = uf (v.1 310) k (n : Nat) := by rw [e26, wr_uf, e22, wr_ne (by decide)]
            have h311 : u26.1 311 = uf (v.1 311) n (k : Nat) := by rw [e26, wr_ne (by decide), e22, wr_uf]
            refine ih (k + 1) (n + 1) u26 (by omega) ⟨by rw [e26, e22]; exact EF_wr (by decide) (EF_wr (by decide) v1), by rw [e26, wr_ne (by decide), e22, wr_ne (by decide)]; exact v2, by omega, fun y' hy' => ?_, fun j hj => ?_, fun y y' ch ch' h1 h2 h3 h4 => ?_⟩
            · rw [h310, h311]
              by_cases e : y' = n
              · exact ⟨k, by rw [e, uf_eq], by omega, by rw [uf_eq, e]⟩
              · obtain ⟨c', c1, c2, c3⟩ := v4 y' (by omega)
                exact ⟨c', by rw [uf_ne (by omega)]; exact c1, by omega, by rw [uf_ne (by omega)]; exact c3⟩
            · rw [h310, h311]
              by_cases e : j = k
              · rw [e, uf_eq]
                exact ⟨n, k, rfl, by omega, by rw [uf_eq], rfl, fun _ _ => rfl⟩
              · rw [uf_ne (by omega)]
                obtain ⟨y, ch, y1, y2, y3, y4⟩ := v5 j (by omega)
                exact ⟨y, ch, y1, by omega, by rw [uf_ne (by omega)]; exact y3, y4⟩
            · rw [h311] at h3 h4
              rw [uf_ne (by omega)] at h3
              by_cases e : y' = n
              · rw [e, uf_eq] at h4
                have : ch' = k := by omega
                rw [this]
                exact fun hs => hno y ch (by omega) h3 (SG_symm hs)
              · rw [uf_ne (by omega)] at h4
                exact v6 y y' ch ch' h1 (by omega) h3 h4
        | succ r ihr =>
          intro t ht hno
          obtain ⟨ch, c1, c2, c3⟩ := v4 t (by omega)
          refine k_250_18 ⟨⟨by omega, by omega⟩, ⟨by omega, by omega⟩, ?_⟩
          rw [if_pos (by omega)]
          refine ⟨⟨by omega, by omega⟩, ?_⟩
          rw [if_pos rfl, c1]
          refine ⟨by omega, by omega, ?_⟩
          refine (q_251 (d := d) (EV_EF hx v1) (fun p hp => by rw [v2]; exact hg p hp) hkP (show ch < P by omega)).mono (Nat.le_refl _) (fun r9 u8 h => ?_)
          obtain ⟨e8, h⟩ := h
          rw [e8]
          rcases h with ⟨h1, h2⟩ | ⟨h1, h2⟩
          · rw [h1]
            refine ⟨⟨by omega, by omega⟩, ?_⟩
            rw [if_neg (by decide)]
            -- found: written at the next head
            refine k_250_18 ⟨⟨by omega, by omega⟩, ⟨by omega, by omega⟩, ?_⟩
            by_cases cl : ((t : Int) + 1) < (n : Nat)
            · rw [if_pos cl]
              refine ⟨⟨by omega, by omega⟩, ?_⟩
              rw [if_neg (by omega)]
              exact ⟨by omega, by omega, fun u15 e15 => found t ch u15 (by omega) c1 h2 e15⟩
            · rw [if_neg cl]
              refine ⟨⟨by omega, by omega⟩, ?_⟩
              rw [if_neg (by omega)]
              exact ⟨by omega, by omega, fun u15 e15 => found t ch u15 (by omega) c1 h2 e15⟩
          · rw [h1]
            refine ⟨⟨by omega, by omega⟩, ?_⟩
            rw [if_pos rfl]
            refine ihr (t + 1) (by omega) (fun y c' hy hc' => ?_)
            by_cases e : y = t
            · rw [e, c1] at hc'
              have : c' = ch := by omega
              rw [this]
              exact h2
            · exact hno y c' (by omega) hc'
      refine k_250_4 ⟨⟨by omega, by omega⟩, ⟨by omega, by omega⟩, ?_⟩
      rw [if_pos (by omega)]
      exact inner n 0 (by omega) (fun y _ hy => absurd hy (Nat.not_lt_zero y))
  refine e_250 (loop P 0 0 u (by omega) ⟨EF_refl u, rfl, by omega, fun y hy => absurd hy (Nat.not_lt_zero y), fun j hj => absurd hj (Nat.not_lt_zero j), fun y y' _ _ _ hy' => absurd hy' (Nat.not_lt_zero y')⟩)
