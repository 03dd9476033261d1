/-! Turning round and copying, on both sides -/
def cMp (A : Ma) : Ma := (A.1, A.2.1, fun i => decide (i < A.1) && !A.2.2 i)
theorem cMp_ok {A : Ma} (h : okM A) : okM (cMp A) := ⟨h.1, h.2.1, h.2.2.1, fun i hi => by
  have hi : (decide (i < A.1) && !A.2.2 i) = true := hi
  rw [Bool.and_eq_true, decide_eq_true_eq] at hi
  exact hi.1⟩
theorem NG_RF {M y : Int} {u w : uS} (h : NG M (wr u 271 42 y) w) : RFm M u w := by
  refine ⟨h.1, fun b j hb h1 h2 h3 h4 => ?_, fun hB => h.2.2 (fun j => by rw [wr_ne (by decide)]; exact hB j)⟩
  simp only [List.mem_cons, List.not_mem_nil, or_false, not_or] at hb
  rw [h.2.1 b j (by simp only [List.mem_cons, List.not_mem_nil, or_false, not_or]; omega) h1 h2 h3, wr_1, if_neg (fun e => (h4 e.1).1 e.2)]
theorem rMa_NG {M k : Int} {u v : uS} {m : Ma} (h : rMa u k m) (hm : okM m) (hf : NG M u v) (hk : k ≠ M) : rMa v k m := rMa_of h (hf.2.1 301 k (by decide) (fun _ => hk) (fun e => absurd e (by decide)) (fun e => absurd e (by decide))) (fun j j1 j2 => hf.2.1 302 j (by decide) (fun e => absurd e (by decide)) (fun _ => by omega) (fun e => absurd e (by decide))) (fun j j1 j2 => hf.2.1 303 j (by decide) (fun e => absurd e (by decide)) (fun e => absurd e (by decide)) (fun _ => by omega)) hm
theorem rMa_RF {M k : Int} {u v : uS} {m : Ma} (h : rMa u k m) (hm : okM m) (hf : RFm M u v) (hk : k ≠ M) : rMa v k m := rMa_of h (hf.2.1 301 k (by decide) (fun _ => hk) (fun e => absurd e (by decide)) (fun e => absurd e (by decide)) (fun e => absurd e (by decide))) (fun j j1 j2 => hf.2.1 302 j (by decide) (fun e => absurd e (by decide)) (fun _ => by omega) (fun e => absurd e (by decide)) (fun e => absurd e (by decide))) (fun j j1 j2 => hf.2.1 303 j (by decide) (fun e => absurd e (by decide)) (fun e => absurd e (by decide)) (fun _ => by omega) (fun e => absurd e (by decide))) hm
set_option maxRecDepth 4000 in
theorem q_242 {d M l : Nat} {A : Ma} {u : uS} (hl : l < M) (hM : M < 100) (h42 : u.1 271 42 = M) (h43 : u.1 271 43 = 0) (hA : okM A) (mA : rMa u l A) : cI (d + 2) 242 [.ref 271, iV (l : Nat)] u (SK (cMp A) M u) := by
  have a40 := hA.2.1
  refine e_242 (fun u1 e1 => ?_)
  rw [h42] at e1
  have k42 : u1.1 271 42 = (M : Int) + 1 := by rw [e1, wr_self]
  have k43 : u1.1 271 43 = 0 := by rw [e1, wr_1, if_neg (by decide)]; exact h43
  have mA1 : rMa u1 l A := rMa_of mA (by rw [e1, wr_ne (by decide)]) (fun j _ _ => by rw [e1, wr_ne (by decide)]) (fun j _ _ => by rw [e1, wr_ne (by decide)]) hA
  rw [k42, show (M : Int) + 1 - 1 = (M : Nat) by omega, mA1.1]
  refine ⟨by omega, by omega, by omega, by omega, fun u7 e7 => ?_⟩
  have loop : ∀ (r k : Nat) (v : uS), k + r = A.1 → NG (M : Nat) u1 v → v.1 301 (M : Nat) = (A.1 : Nat) → (∀ s c : Nat, s < k → c < 10 → v.1 302 (400 * ((M : Nat) : Int) + 10 * (s : Int) + (c : Int)) = A.2.1 s c) → (∀ s : Nat, s < k → v.1 303 (40 * ((M : Nat) : Int) + (s : Int)) = b2 (!A.2.2 s)) → K_242 (d + 1) 19 [.ref 271, iV (l : Nat), iV (M : Nat), iV (k : Nat), .retAddr 0] [] v (SK (cMp A) M u) := by
    intro r
    induction r with
    | zero =>
      intro k v hk f1 f2 f3 f4
      have mA' := rMa_NG mA1 hA f1 (by omega)
      have e301 := mA'.1
      refine k_242_19 ⟨by omega, by omega, ⟨by omega, by omega⟩, ⟨by omega, by omega⟩, ?_⟩
      rw [if_neg (by omega)]
      rw [e1] at f1
      refine ⟨rfl, NG_RF f1, ?_, ?_, f2, fun s c hs c0 c1 => ?_, fun s hs => ?_⟩
      · rw [NG_row f1 (by decide), wr_self]
      · rw [NG_row f1 (by decide), wr_1, if_neg (by decide)]; exact h43
      · have hs1 := hs.1
        have hs2 : s < (A.1 : Nat) := hs.2
        have := f3 s.toNat c.toNat (by omega) (by omega)
        rw [show ((s.toNat : Nat) : Int) = s by omega, show ((c.toNat : Nat) : Int) = c by omega] at this
        exact this
      · have hs1 := hs.1
        have hs2 : s < (A.1 : Nat) := hs.2
        have := f4 s.toNat (by omega)
        rw [show ((s.toNat : Nat) : Int) = s by omega] at this
        rw [this]
        show _ = b2 (decide (s.toNat < A.1) && !A.2.2 s.toNat)
        rw [decide_eq_true (by omega), Bool.true_and]
    | succ r ih =>
      intro k v hk f1 f2 f3 f4
      have mA' := rMa_NG mA1 hA f1 (by omega)
      have e301 := mA'.1
      have e303 := mA'.2.2 k ⟨by omega, by omega⟩
      rw [Int.toNat_natCast] at e303
      have hb := b2_r (A.2.2 k)
      -- the steps of a state
      have row : ∀ (m c : Nat) (w : uS), c + m = 10 → NG (M : Nat) u1 w → w.1 301 (M : Nat) = (A.1 : Nat) → (∀ s c' : Nat, (s < k ∨ (s = k ∧ c' < c)) → c' < 10 → w.1 302 (400 * ((M : Nat) : Int) + 10 * (s : Int) + (c' : Int)) = A.2.1 s c') → (∀ s : Nat, s < k + 1 → w.1 303 (40 * ((M : Nat) : Int) + (s : Int)) = b2 (!A.2.2 s)) → K_242 (d + 1) 62 [.ref 271, iV (l : Nat), iV (M : Nat), iV (k : Nat), iV (c : Nat)] [] w (SK (cMp A) M u) := by
        intro m
        induction m with
        | zero =>
          intro c w hc g1 g2 g3 g4
          refine k_242_62 ⟨⟨by omega, by omega⟩, ?_⟩
          rw [if_neg (by omega)]
          exact ih (k + 1) w (by omega) g1 g2 (fun s c' hs hc' => g3 s c' (by omega) hc') g4
        | succ m ihm =>
          intro c w hc g1 g2 g3 g4
          have mw := rMa_NG mA1 hA g1 (show ((l : Nat) : Int) ≠ (M : Nat) by omega)
          refine k_242_62 ⟨⟨by omega, by omega⟩, ?_⟩
          rw [if_pos (by omega), mw.2.1 k c ⟨by omega, by omega⟩ (by omega) (by omega)]
          refine ⟨by omega, by omega, by omega, by omega, fun u7 e7 => ?_⟩
          refine ihm (c + 1) u7 (by omega) (by rw [e7]; exact NG_2 ⟨by omega, by omega⟩ g1) (by rw [e7, wr_ne (by decide)]; exact g2) (fun s c' hs hc' => ?_) (fun s hs => by rw [e7, wr_ne (by decide)]; exact g4 s hs)
          rw [e7, wr_uf]
          by_cases e : s = k ∧ c' = c
          · rw [e.1, e.2, uf_eq]
          · rw [uf_ne (by omega)]; exact g3 s c' (by omega) hc'
      refine k_242_19 ⟨by omega, by omega, ⟨by omega, by omega⟩, ⟨by omega, by omega⟩, ?_⟩
      rw [if_pos (by omega), e303]
      have go : ∀ (y : Int) (u12 : uS), y = b2 (!A.2.2 k) → u12 = wr v 303 (40 * ((M : Nat) : Int) + (k : Int)) y → K_242 (d + 1) 62 [.ref 271, iV (l : Nat), iV (M : Nat), iV (k : Nat), iV 0] [] u12 (SK (cMp A) M u) := by
        intro y u12 hy e12
        refine row 10 0 u12 (by omega) (by rw [e12]; exact NG_3 (by rw [hy]; exact b2_r _) ⟨by omega, by omega⟩ f1) (by rw [e12, wr_ne (by decide)]; exact f2) (fun s c' hs hc' => by rw [e12, wr_ne (by decide)]; exact f3 s c' (by omega) hc') (fun s hs => ?_)
        rw [e12, wr_uf]
        by_cases e : s = k
        · rw [e, uf_eq]; exact hy
        · rw [uf_ne (by omega)]; exact f4 s (by omega)
      refine ⟨by omega, by omega, ⟨by omega, by omega⟩, ?_⟩
      cases hl : A.2.2 k with
      | false =>
        rw [if_pos b2f]
        exact ⟨by omega, by omega, fun u12 e12 => go 1 u12 (by rw [hl]; rfl) e12⟩
      | true =>
        rw [if_neg (by decide)]
        exact ⟨by omega, by omega, fun u12 e12 => go 0 u12 (by rw [hl]; rfl) e12⟩
  exact loop A.1 0 u7 (by omega) (by rw [e7]; exact NG_1 ⟨rfl, fun _ _ _ _ _ _ => rfl, fun h => h⟩) (by rw [e7, wr_self]) (fun s c hs => absurd hs (Nat.not_lt_zero s)) (fun s hs => absurd hs (Nat.not_lt_zero s))
/-- copying within the table of machines -/
def CY (a b : Nat) (u u' : uS) : Prop := u'.2 = u.2 ∧ (∀ c, c ≠ 301 → c ≠ 302 → c ≠ 303 → u'.1 c = u.1 c) ∧ u'.1 301 = uf (u.1 301) (b : Nat) (u.1 301 (a : Nat)) ∧ (∀ j : Int, u'.1 302 j = if 400 * (b : Int) ≤ j ∧ j < 400 * (b : Int) + 400 then u.1 302 (400 * (a : Int) + (j - 400 * (b : Int))) else u.1 302 j) ∧ ∀ j : Int, u'.1 303 j = if 40 * (b : Int) ≤ j ∧ j < 40 * (b : Int) + 40 then u.1 303 (40 * (a : Int) + (j - 40 * (b : Int))) else u.1 303 j
set_option maxRecDepth 4000 in
theorem q_261 {d a b : Nat} {u : uS} (ha : a < 100) (hb : b < 100) (hB : B3 u) : cV (d + 1) 261 [.ref 271, iV (a : Nat), iV (b : Nat)] u (CY a b u) := by
  refine e_261 ⟨by omega, by omega, by omega, by omega, fun u5 e5 => ?_⟩
  have h301 : u5.1 301 = uf (u.1 301) (b : Nat) (u.1 301 (a : Nat)) := by rw [e5, wr_uf]
  have hne5 : ∀ c, c ≠ 301 → u5.1 c = u.1 c := fun c hc => by rw [e5, wr_ne hc]
  have steps : ∀ (m k : Nat) (v : uS), k + m = 400 → v.2 = u.2 → (∀ c, c ≠ 302 → c ≠ 303 → v.1 c = u5.1 c) → (∀ j : Int, v.1 303 j = if 40 * (b : Int) ≤ j ∧ j < 40 * (b : Int) + 40 then u.1 303 (40 * (a : Int) + (j - 40 * (b : Int))) else u.1 303 j) → (∀ j : Int, v.1 302 j = if 400 * (b : Int) ≤ j ∧ j < 400 * (b : Int) + k then u.1 302 (400 * (a : Int) + (j - 400 * (b : Int))) else u.1 302 j) → K_261 d 50 [.ref 271, iV (a : Nat), iV (b : Nat), iV (k : Nat)] [] v (CY a b u) := by
    intro m
    induction m with
    | zero =>
      intro k v hk f1 f2 f3 f4
      have ek : k = 400 := by omega
      rw [ek] at f4
      refine k_261_50 ⟨⟨by omega, by omega⟩, ?_⟩
      rw [if_neg (by omega)]
      exact ⟨f1, fun c h1 h2 h3 => by rw [f2 c h2 h3]; exact hne5 c h1, by rw [f2 301 (by decide) (by decide)]; exact h301, f4, f3⟩
    | succ m ih =>
      intro k v hk f1 f2 f3 f4
      have hrd : v.1 302 (400 * (a : Int) + (k : Int)) = u.1 302 (400 * (a : Int) + (k : Int)) := by
        rw [f4]
        by_cases e : a = b
        · rw [if_neg (by omega)]
        · rw [if_neg (by omega)]
      refine k_261_50 ⟨⟨by omega, by omega⟩, ?_⟩
      rw [if_pos (by omega), hrd]
      refine ⟨by omega, by omega, by omega, by omega, fun u7 e7 => ih (k + 1) u7 (by omega) (by rw [e7, wr_2]; exact f1) (fun c h1 h2 => by rw [e7, wr_ne h1]; exact f2 c h1 h2) (by rw [e7, wr_ne (by decide)]; exact f3) (fun j => ?_)⟩
      rw [e7, wr_uf]
      by_cases e : j = 400 * (b : Int) + (k : Int)
      · rw [e, uf_eq, if_pos ⟨by omega, by omega⟩, show 400 * (a : Int) + (400 * (b : Int) + (k : Int) - 400 * (b : Int)) = 400 * (a : Int) + (k : Int) by omega]
      · rw [uf_ne e, f4 j]
        by_cases c : 400 * (b : Int) ≤ j ∧ j < 400 * (b : Int) + (k : Nat)
        · rw [if_pos c, if_pos ⟨by omega, by omega⟩]
        · rw [if_neg c, if_neg (by omega)]
  have lasts : ∀ (m k : Nat) (v : uS), k + m = 40 → v.2 = u.2 → (∀ c, c ≠ 303 → v.1 c = u5.1 c) → (∀ j : Int, v.1 303 j = if 40 * (b : Int) ≤ j ∧ j < 40 * (b : Int) + k then u.1 303 (40 * (a : Int) + (j - 40 * (b : Int))) else u.1 303 j) → K_261 d 14 [.ref 271, iV (a : Nat), iV (b : Nat), iV (k : Nat)] [] v (CY a b u) := by
    intro m
    induction m with
    | zero =>
      intro k v hk f1 f2 f3
      have ek : k = 40 := by omega
      rw [ek] at f3
      refine k_261_14 ⟨⟨by omega, by omega⟩, ?_⟩
      rw [if_neg (by omega)]
      exact steps 400 0 v (by omega) f1 (fun c _ h => f2 c h) f3 (fun j => by
        rw [if_neg (by omega), f2 302 (by decide), hne5 302 (by decide)])
    | succ m ih =>
      intro k v hk f1 f2 f3
      have hrd : v.1 303 (40 * (a : Int) + (k : Int)) = u.1 303 (40 * (a : Int) + (k : Int)) := by
        rw [f3]
        by_cases e : a = b
        · rw [if_neg (by omega)]
        · rw [if_neg (by omega)]
      refine k_261_14 ⟨⟨by omega, by omega⟩, ?_⟩
      rw [if_pos (by omega), hrd]
      refine ⟨by omega, by omega, by omega, by omega, hB _, fun u8 e8 => ih (k + 1) u8 (by omega) (by rw [e8, wr_2]; exact f1) (fun c h => by rw [e8, wr_ne h]; exact f2 c h) (fun j => ?_)⟩
      rw [e8, wr_uf]
      by_cases e : j = 40 * (b : Int) + (k : Int)
      · rw [e, uf_eq, if_pos ⟨by omega, by omega⟩, show 40 * (a : Int) + (40 * (b : Int) + (k : Int) - 40 * (b : Int)) = 40 * (a : Int) + (k : Int) by omega]
      · rw [uf_ne e, f3 j]
        by_cases c : 40 * (b : Int) ≤ j ∧ j < 40 * (b : Int) + (k : Nat)
        · rw [if_pos c, if_pos ⟨by omega, by omega⟩]
        · rw [if_neg c, if_neg (by omega)]
  exact lasts 40 0 u5 (by omega) (by rw [e5, wr_2]) (fun _ _ => rfl) (fun j => by rw [if_neg (by omega), hne5 303 (by decide)])
theorem CY_B3 {a b : Nat} {u u' : uS} (h : CY a b u u') (hB : B3 u) : B3 u' := fun j => by
  rw [h.2.2.2.2 j]
  split
  · exact hB _
  · exact hB _
theorem CY_to {a b : Nat} {u u' : uS} {m : Ma} (h : CY a b u u') (hm : okM m) (hu : rMa u a m) : rMa u' b m := by
  have h40 := hm.2.1
  refine ⟨by rw [h.2.2.1, uf_eq]; exact hu.1, fun s c hs c0 c1 => ?_, fun s hs => ?_⟩
  · have s1 := hs.1
    have s2 := hs.2
    rw [h.2.2.2.1, if_pos ⟨by omega, by omega⟩, show 400 * (a : Int) + (400 * (b : Int) + 10 * s + c - 400 * (b : Int)) = 400 * (a : Int) + 10 * s + c by omega]
    exact hu.2.1 s c hs c0 c1
  · have s1 := hs.1
    have s2 := hs.2
    rw [h.2.2.2.2, if_pos ⟨by omega, by omega⟩, show 40 * (a : Int) + (40 * (b : Int) + s - 40 * (b : Int)) = 40 * (a : Int) + s by omega]
    exact hu.2.2 s hs
theorem CY_keep {a b k : Nat} {u u' : uS} {m : Ma} (h : CY a b u u') (hm : okM m) (hu : rMa u k m) (hk : k ≠ b) : rMa u' k m := rMa_of hu (by rw [h.2.2.1, uf_ne (by omega)]) (fun j j1 j2 => by rw [h.2.2.2.1, if_neg (by omega)]) (fun j j1 j2 => by rw [h.2.2.2.2, if_neg (by omega)]) hm
/-- one side: a machine turned round -/
theorem lshl_pow {n : Nat} (hn : n ≤ 40) : lshl 1 (n : Int) = ((2 ^ n : Nat) : Int) := by
  have h2 : (2 : Nat) ^ n ≤ 2 ^ 40 := Nat.pow_le_pow_right (by omega) hn
  have h3 : (2 : Nat) ^ 40 = 1099511627776 := by decide
  have hr : rL ((2 ^ n : Nat) : Int) := by
    generalize 2 ^ n = q at h2
    exact ⟨by omega, by omega⟩
  refine bt_ext (rl_lshl _ _) hr (fun i hi => ?_)
  rw [bt_shl1 (by omega), bt_nat _ hi, Nat.testBit_two_pow]
  by_cases e : i = n
  · rw [decide_eq_true e, decide_eq_true e.symm]
  · rw [decide_eq_false e, decide_eq_false (fun h => e h.symm)]
theorem turn_ok {u : uS} {a : Nat} {A : Ma} (hA : okM A) (h : cMa u a A) : cMa (wr u a 1 (land (lxor (u.1 a 1) (-1)) ((lshl 1 (u.1 a 0)) - 1))) a (cMp A) := by
  have a40 := hA.2.1
  refine ⟨by rw [wr_1, if_neg (by omega)]; exact h.1, fun s c hs c0 c1 => ?_, by rw [wr_self]; exact rl_land _ _, fun i => ?_⟩
  · rw [wr_ne (by omega)]
    exact h.2.1 s c hs c0 c1
  · rw [wr_self, h.1, lshl_pow a40]
    show _ = (decide (i < A.1) && !A.2.2 i)
    have hp : (1 : Nat) ≤ 2 ^ A.1 := Nat.one_le_two_pow
    rw [show (((2 ^ A.1 : Nat) : Int) - 1) = ((2 ^ A.1 - 1 : Nat) : Int) by omega, bt_land, bt_lxor, h.2.2.2]
    by_cases hi : i < 64
    · rw [bt_nat _ hi, Nat.testBit_two_pow_sub_one, bt_m1 hi, Bool.xor_true, Bool.and_comm]
    · rw [bt_big (x := ((2 ^ A.1 - 1 : Nat) : Int)) (by omega), Bool.and_false, decide_eq_false (show ¬ i < A.1 by omega), Bool.false_and]
/-- one side: a machine copied -/
theorem take_ok {u u3 u7 : uS} {a l : Nat} {A : Ma} (hA : okM A) (h : cMa u l A) (hal : a ≠ l) (hal1 : a ≠ l + 1) (hla1 : l ≠ a + 1) (u1 : uS) (e1 : u1 = wr u a 0 (u.1 l 0)) (e3 : u3 = wr u1 a 1 (u1.1 l 1)) (e7 : u7 = cpy u3 (l + 1) 0 (a + 1) 0 ((u3.1 a 0) * 10)) : cMa u7 a A ∧ cF a u u7 := by
  have k0 : u3.1 a 0 = (A.1 : Nat) := by rw [e3, wr_1, if_neg (by omega), e1, wr_self]; exact h.1
  have hne3 : ∀ b, b ≠ a → u3.1 b = u.1 b := fun b hb => by rw [e3, wr_ne hb, e1, wr_ne hb]
  have k1 : u3.1 a 1 = u.1 l 1 := by rw [e3, wr_self, e1, wr_ne (fun e => hal e.symm)]
  have hne7 : ∀ b, b ≠ a + 1 → u7.1 b = u3.1 b := fun b hb => by
    rw [e7]
    funext j
    show (if b = a + 1 ∧ _ then _ else _) = _
    rw [if_neg (fun hh => hb hh.1)]
  refine ⟨⟨?_, fun s c hs c0 c1 => ?_, ?_, fun i => ?_⟩, ?_, fun b hb hb' => by rw [hne7 b hb', hne3 b hb]⟩
  · rw [hne7 a (by omega)]; exact k0
  · have s1 := hs.1
    have s2 := hs.2
    rw [e7]
    show (if a + 1 = a + 1 ∧ (0 : Int) ≤ s * 10 + c ∧ s * 10 + c < 0 + u3.1 a 0 * 10 then u3.1 (l + 1) (0 + (s * 10 + c - 0)) else u3.1 (a + 1) (s * 10 + c)) = _
    rw [if_pos ⟨rfl, by omega, by omega⟩, show (0 : Int) + (s * 10 + c - 0) = s * 10 + c by omega, hne3 (l + 1) (by omega)]
    exact h.2.1 s c hs c0 c1
  · rw [hne7 a (by omega), k1]; exact h.2.2.1
  · rw [hne7 a (by omega), k1]; exact h.2.2.2 i
  · rw [e7]
    show u3.2 = u.2
    rw [e3, wr_2, e1, wr_2]
