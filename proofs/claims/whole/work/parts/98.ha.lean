/-! Sets of states; following a rule through a machine -/
def stB (n : Nat) (x : Int) (S : Int → Prop) : Prop := rL x ∧ ∀ i : Nat, bt x i = true ↔ ((i : Int) < n ∧ S i)
theorem stB_congr {n : Nat} {x : Int} {S S' : Int → Prop} (h : stB n x S) (hs : ∀ q, iR n q → (S q ↔ S' q)) : stB n x S' := ⟨h.1, fun i => by
  rw [h.2 i]
  constructor
  · rintro ⟨a, b⟩; exact ⟨a, (hs i ⟨by omega, a⟩).mp b⟩
  · rintro ⟨a, b⟩; exact ⟨a, (hs i ⟨by omega, a⟩).mpr b⟩⟩
theorem stB_eq {n : Nat} {x y : Int} {S : Int → Prop} (h : stB n x S) (h' : stB n y S) : x = y := by
  refine bt_ext h.1 h'.1 (fun i _ => ?_)
  have a := h.2 i
  have b := h'.2 i
  cases hx : bt x i with
  | true => rw [b.mpr (a.mp hx)]
  | false =>
    cases hy : bt y i with
    | false => rfl
    | true => rw [a.mpr (b.mp hy)] at hx; cases hx
theorem stB_or {n : Nat} {x y : Int} {S T : Int → Prop} (h : stB n x S) (h' : stB n y T) : stB n (lor x y) (fun q => S q ∨ T q) := ⟨rl_lor x y, fun i => by
  rw [bt_lor, Bool.or_eq_true, h.2 i, h'.2 i]
  constructor
  · rintro (⟨a, b⟩ | ⟨a, b⟩)
    · exact ⟨a, Or.inl b⟩
    · exact ⟨a, Or.inr b⟩
  · rintro ⟨a, b | b⟩
    · exact Or.inl ⟨a, b⟩
    · exact Or.inr ⟨a, b⟩⟩
theorem stB_0 (n : Nat) : stB n 0 (fun _ => False) := ⟨⟨by omega, by omega⟩, fun i => by
  rw [bt_0]
  constructor
  · intro h; cases h
  · rintro ⟨-, h⟩; exact h.elim⟩
theorem stB_1 {n : Nat} {p : Int} (hn : n ≤ 40) (hp : iR n p) : stB n (lshl 1 p) (fun q => q = p) := ⟨rl_lshl 1 p, fun i => by
  rw [bt_bit hp.1 (by have := hp.2; omega), decide_eq_true_eq]
  constructor
  · intro h
    have := hp.1
    have := hp.2
    exact ⟨by omega, by omega⟩
  · rintro ⟨a, b⟩
    omega⟩
/-- all members of a set, one by one: the least first -/
theorem bits_ct {x : Int} (hx : rL x) (h0 : x ≠ 0) : ∃ t : Nat, t < 64 ∧ ntz x = t ∧ bt x t = true ∧ (∀ j, bt (land x (x - 1)) j = (bt x j && decide (j ≠ t))) ∧ ct (bt (land x (x - 1))) 64 < ct (bt x) 64 := by
  obtain ⟨t, h1, h2, h3, h4, h5⟩ := ntz_spec hx h0
  refine ⟨t, h1, h2, h3, h5, ct_lt 64 (fun i hi h => ?_) ⟨t, h1, ?_, h3⟩⟩
  · rw [h5, Bool.and_eq_true] at h
    exact h.1
  · rw [h5]
    simp
theorem bits_0 {x : Int} {P : Nat → Prop} (h : x = 0) : ∀ i, bt x i = true → P i := fun i hi => by
  rw [h, bt_0] at hi
  cases hi
theorem p_76 {d n mk : Nat} {u : uS} {c X : Int} {S : Int → Prop} (hO : isO mk 5) (hn : n ≤ 40) (hc : 0 ≤ c ∧ c < 10) (hd : ∀ s, iR n s → iR n (u.1 (mk + 1) (s * 10 + c))) (hX : stB n X S) : cL (d + 3) 76 [.ref mk, lV X, iV c] u (fun r u' => u' = u ∧ stB n r (fun q => ∃ o, iR n o ∧ S o ∧ u.1 (mk + 1) (o * 10 + c) = q)) := by
  have loop : ∀ (m : Nat) (x y : Int), ct (bt x) 64 ≤ m → rL x → rL y → (∀ i, bt x i = true → bt X i = true) → (∀ i : Nat, bt y i = true ↔ ∃ s : Nat, bt X s = true ∧ bt x s = false ∧ u.1 (mk + 1) ((s : Int) * 10 + c) = i) → K_76 (d + 2) 6 [.ref mk, .retAddr 0, .retAddr 0, iV c, lV y, .retAddr 0, lV x, .retAddr 0] [] u (fun r u' => u' = u ∧ stB n r (fun q => ∃ o, iR n o ∧ S o ∧ u.1 (mk + 1) (o * 10 + c) = q)) := by
    have fin : ∀ (x y : Int), x = 0 → rL y → (∀ i : Nat, bt y i = true ↔ ∃ s : Nat, bt X s = true ∧ bt x s = false ∧ u.1 (mk + 1) ((s : Int) * 10 + c) = i) → stB n y (fun q => ∃ o, iR n o ∧ S o ∧ u.1 (mk + 1) (o * 10 + c) = q) := by
      intro x y hx hy hi
      refine ⟨hy, fun i => ?_⟩
      rw [hi i]
      constructor
      · rintro ⟨s, a, -, b⟩
        obtain ⟨a1, a2⟩ := (hX.2 s).mp a
        have := hd s ⟨by omega, a1⟩
        rw [b] at this
        exact ⟨this.2, s, ⟨by omega, a1⟩, a2, b⟩
      · rintro ⟨a, o, o1, o2, o3⟩
        have e : ((o.toNat : Nat) : Int) = o := by have := o1.1; omega
        refine ⟨o.toNat, (hX.2 _).mpr ?_, by rw [hx, bt_0], ?_⟩
        · rw [e]; exact ⟨o1.2, o2⟩
        · rw [e]; exact o3
    intro m
    induction m with
    | zero =>
      intro x y hm hx hy hsub hi
      have hx0 : x = 0 := by
        refine bt_ext hx ⟨by omega, by omega⟩ (fun i hi64 => ?_)
        rw [bt_0]
        cases hb : bt x i with
        | false => rfl
        | true =>
          have := ct_lt (p := fun _ => false) (q := bt x) 64 (fun _ _ h => by cases h) ⟨i, hi64, rfl, hb⟩
          omega
      refine k_76_6 hO ⟨hx, ?_⟩
      rw [if_pos hx0]
      exact ⟨rfl, fin x y hx0 hy hi⟩
    | succ m ih =>
      intro x y hm hx hy hsub hi
      refine k_76_6 hO ⟨hx, ?_⟩
      by_cases hx0 : x = 0
      · rw [if_pos hx0]
        exact ⟨rfl, fin x y hx0 hy hi⟩
      · rw [if_neg hx0]
        obtain ⟨t, t1, t2, t3, t4, t5⟩ := bits_ct hx hx0
        obtain ⟨a1, a2⟩ := (hX.2 t).mp (hsub t t3)
        have hdt := hd t ⟨by omega, a1⟩
        rw [t2]
        refine ⟨by omega, by omega, ih _ _ (by omega) (rl_land _ _) (rl_lor _ _) (fun i h => ?_) (fun i => ?_)⟩
        · rw [t4, Bool.and_eq_true] at h
          exact hsub i h.1
        · rw [bt_lor, Bool.or_eq_true, hi i, bt_bit hdt.1 (by have := hdt.2; omega), decide_eq_true_eq]
          constructor
          · rintro (⟨s, b1, b2, b3⟩ | h)
            · exact ⟨s, b1, by rw [t4, b2]; rfl, b3⟩
            · refine ⟨t, hsub t t3, by rw [t4]; simp, ?_⟩
              have := hdt.1
              omega
          · rintro ⟨s, b1, b2, b3⟩
            by_cases e : s = t
            · rw [e] at b3
              refine Or.inr ?_
              omega
            · rw [t4] at b2
              refine Or.inl ⟨s, b1, ?_, b3⟩
              simpa [e] using b2
  refine e_76 hO (loop 64 X 0 (ct_le _ 64) hX.1 ⟨by omega, by omega⟩ (fun i h => h) (fun i => ?_))
  rw [bt_0]
  constructor
  · intro h; cases h
  · rintro ⟨s, b1, b2, -⟩
    rw [b1] at b2
    cases b2
/-- where one can stand behind k symbols -/
def fol (F : Int → Int → Int → Prop) (dl : Int → Int → Int) (l : Int → Int) (n : Nat) (p : Int) : Nat → Int → Prop
  | 0, q => q = p
  | k + 1, q => ∃ o, iR n o ∧ fol F dl l n p k o ∧ (if l k < 100 then dl o (l k) = q else F (l k - 100) o q)
theorem fol_mono {F F' : Int → Int → Int → Prop} {dl : Int → Int → Int} {l : Int → Int} {n : Nat} {p : Int} (h : ∀ x o q, F x o q → F' x o q) : ∀ (k : Nat) (q : Int), fol F dl l n p k q → fol F' dl l n p k q
  | 0, _, h0 => h0
  | k + 1, q, ⟨o, h1, h2, h3⟩ => by
    refine ⟨o, h1, fol_mono h k o h2, ?_⟩
    split
    · next q1 => rw [if_pos q1] at h3; exact h3
    · next q1 => rw [if_neg q1] at h3; exact h _ _ _ h3
theorem p_142 {d n nv l0 mk l2 l5 nl2 nl5 : Nat} {u : uS} {r p : Int} {F : Int → Int → Int → Prop} (hO0 : isO l0 2) (hO1 : isO mk 5) (hA2 : isA l2 1 nl2) (hA5 : isA l5 1 nl5) (h2 : nl2 = 400) (h5 : nl5 = 7) (hn : n ≤ 40) (hv : nv ≤ 10) (ne : l5 ≠ l0 + 3 ∧ l5 ≠ l0 + 4 ∧ l5 ≠ l2 ∧ l5 ≠ mk + 1) (hr : 0 ≤ r ∧ r < 30) (hlen : 0 ≤ u.1 (l0 + 3) r ∧ u.1 (l0 + 3) r ≤ 6) (hsy : ∀ k, 0 ≤ k → k < u.1 (l0 + 3) r → symR nv (u.1 (l0 + 4) (r * 6 + k))) (hd : ∀ s c, iR n s → 0 ≤ c → c < 10 → iR n (u.1 (mk + 1) (s * 10 + c))) (hF : ∀ x o, iR nv x → iR n o → stB n (u.1 l2 (x * 40 + o)) (F x o)) (hp : iR n p) : cV (d + 5) 142 [.ref l0, .ref mk, .ref l2, iV r, iV p, .ref l5] u (fun u' => sb1 u u' [l5] ∧ u'.2 = u.2 ∧ ∀ k : Nat, (k : Int) ≤ u.1 (l0 + 3) r → stB n (u'.1 l5 k) (fol F (fun s c => u.1 (mk + 1) (s * 10 + c)) (fun k => u.1 (l0 + 4) (r * 6 + k)) n p k)) := by
  have main : ∀ (m k : Nat) (u1 : uS) (x : Int), (k : Int) + m = u.1 (l0 + 3) r → sb1 u u1 [l5] → u1.2 = u.2 → stB n x (fol F (fun s c => u.1 (mk + 1) (s * 10 + c)) (fun k => u.1 (l0 + 4) (r * 6 + k)) n p k) → (∀ k' : Nat, k' ≤ k → stB n (u1.1 l5 k') (fol F (fun s c => u.1 (mk + 1) (s * 10 + c)) (fun k => u.1 (l0 + 4) (r * 6 + k)) n p k')) → K_142 (d + 4) 15 [.ref l0, .ref mk, .ref l2, iV r, .retAddr 0, .ref l5, lV x, .retAddr 0, iV k, .retAddr 0, .retAddr 0, .retAddr 0, .retAddr 0, .retAddr 0] [] u1 (fun u' => sb1 u u' [l5] ∧ u'.2 = u.2 ∧ ∀ k : Nat, (k : Int) ≤ u.1 (l0 + 3) r → stB n (u'.1 l5 k) (fol F (fun s c => u.1 (mk + 1) (s * 10 + c)) (fun k => u.1 (l0 + 4) (r * 6 + k)) n p k)) := by
    intro m
    induction m with
    | zero =>
      intro k u1 x hk hs h2' hx hall
      have e3 : u1.1 (l0 + 3) = u.1 (l0 + 3) := hs _ (by simp; omega)
      refine k_142_15 hO0 hO1 hA2 hA5 ⟨hr.1, hr.2, ⟨by omega, by omega⟩, ?_⟩
      rw [e3]
      refine ⟨⟨by omega, by omega⟩, ?_⟩
      rw [if_neg (by omega)]
      exact ⟨hs, h2', fun k' hk' => hall k' (by omega)⟩
    | succ m ih =>
      intro k u1 x hk hs h2' hx hall
      have e3 : u1.1 (l0 + 3) = u.1 (l0 + 3) := hs _ (by simp; omega)
      have e4 : u1.1 (l0 + 4) = u.1 (l0 + 4) := hs _ (by simp; omega)
      have eM : u1.1 (mk + 1) = u.1 (mk + 1) := hs _ (by simp; omega)
      have e2 : u1.1 l2 = u.1 l2 := hs _ (by simp; omega)
      have hsk := hsy k (by omega) (by omega)
      have hsk2 := hsk
      unfold symR at hsk2
      -- the next set is written
      have nxt : ∀ (u2 : uS) (y : Int), u2 = wr u1 l5 ((k : Int) + 1) y → stB n y (fol F (fun s c => u.1 (mk + 1) (s * 10 + c)) (fun k => u.1 (l0 + 4) (r * 6 + k)) n p (k + 1)) → K_142 (d + 4) 15 [.ref l0, .ref mk, .ref l2, iV r, .retAddr 0, .ref l5, lV y, .retAddr 0, iV ((k : Int) + 1), .retAddr 0, .retAddr 0, .retAddr 0, .retAddr 0, .retAddr 0] [] u2 (fun u' => sb1 u u' [l5] ∧ u'.2 = u.2 ∧ ∀ k : Nat, (k : Int) ≤ u.1 (l0 + 3) r → stB n (u'.1 l5 k) (fol F (fun s c => u.1 (mk + 1) (s * 10 + c)) (fun k => u.1 (l0 + 4) (r * 6 + k)) n p k)) := by
        intro u2 y e hy
        refine ih (k + 1) u2 y (by omega) (by rw [e]; exact sb1_wr hs (by simp)) (by rw [e, wr_2]; exact h2') hy (fun k' hk' => ?_)
        rw [e, wr_uf]
        by_cases e' : k' = k + 1
        · rw [e', show ((k + 1 : Nat) : Int) = (k : Int) + 1 by omega, uf_eq]
          exact hy
        · rw [uf_ne (by omega)]
          exact hall k' (by omega)
      refine k_142_15 hO0 hO1 hA2 hA5 ⟨hr.1, hr.2, ⟨by omega, by omega⟩, ?_⟩
      rw [e3, e4]
      refine ⟨⟨by omega, by omega⟩, ?_⟩
      rw [if_pos (by omega)]
      refine ⟨by omega, by omega, ⟨by omega, by omega⟩, ?_⟩
      by_cases hl : u.1 (l0 + 4) (r * 6 + k) < 100
      · rw [if_pos hl]
        have hp76 := p_76 (d := d + 1) (u := u1) (c := u.1 (l0 + 4) (r * 6 + k)) hO1 hn (by omega) (fun s hs' => by rw [eM]; exact hd s _ hs' (by omega) (by omega)) hx
        refine cL.mono hp76 (Nat.le_refl _) (fun y u10 hy => ?_)
        obtain ⟨eu, hy⟩ := hy
        rw [eu]
        refine ⟨by omega, by omega, fun u14 e14 => nxt u14 y e14 (stB_congr hy (fun q hq => ?_))⟩
        rw [eM]
        constructor
        · rintro ⟨o, a, b, c⟩
          exact ⟨o, a, b, by rw [if_pos hl]; exact c⟩
        · rintro ⟨o, a, b, c⟩
          rw [if_pos hl] at c
          exact ⟨o, a, b, c⟩
      · rw [if_neg hl]
        have loop : ∀ (m' : Nat) (z y : Int), ct (bt z) 64 ≤ m' → rL z → rL y → (∀ i, bt z i = true → bt x i = true) → (∀ i : Nat, bt y i = true ↔ ∃ s : Nat, bt x s = true ∧ bt z s = false ∧ bt (u.1 l2 ((u.1 (l0 + 4) (r * 6 + k) - 100) * 40 + s)) i = true) → K_142 (d + 4) 62 [.ref l0, .ref mk, .ref l2, iV r, .retAddr 0, .ref l5, .retAddr 0, .retAddr 0, iV k, iV (u.1 (l0 + 4) (r * 6 + k)), lV y, .retAddr 0, lV z, .retAddr 0] [] u1 (fun u' => sb1 u u' [l5] ∧ u'.2 = u.2 ∧ ∀ k : Nat, (k : Int) ≤ u.1 (l0 + 3) r → stB n (u'.1 l5 k) (fol F (fun s c => u.1 (mk + 1) (s * 10 + c)) (fun k => u.1 (l0 + 4) (r * 6 + k)) n p k)) := by
          have fin : ∀ (z y : Int), z = 0 → rL y → (∀ i : Nat, bt y i = true ↔ ∃ s : Nat, bt x s = true ∧ bt z s = false ∧ bt (u.1 l2 ((u.1 (l0 + 4) (r * 6 + k) - 100) * 40 + s)) i = true) → stB n y (fol F (fun s c => u.1 (mk + 1) (s * 10 + c)) (fun k => u.1 (l0 + 4) (r * 6 + k)) n p (k + 1)) := by
            intro z y hz hy hi
            refine ⟨hy, fun i => ?_⟩
            rw [hi i]
            constructor
            · rintro ⟨s, a, -, b⟩
              obtain ⟨a1, a2⟩ := (hx.2 s).mp a
              have hFs := (hF (u.1 (l0 + 4) (r * 6 + k) - 100) s ⟨by omega, by omega⟩ ⟨by omega, a1⟩).2 i
              obtain ⟨b1, b2⟩ := hFs.mp b
              exact ⟨b1, s, ⟨by omega, a1⟩, a2, by rw [if_neg hl]; exact b2⟩
            · rintro ⟨a, o, o1, o2, o3⟩
              rw [if_neg hl] at o3
              have e : ((o.toNat : Nat) : Int) = o := by have := o1.1; omega
              refine ⟨o.toNat, (hx.2 _).mpr ?_, by rw [hz, bt_0], ?_⟩
              · rw [e]; exact ⟨o1.2, o2⟩
              · rw [e]
                exact ((hF (u.1 (l0 + 4) (r * 6 + k) - 100) o ⟨by omega, by omega⟩ o1).2 i).mpr ⟨a, o3⟩
          intro m'
          induction m' with
          | zero =>
            intro z y hm hz hy hsub hi
            have hz0 : z = 0 := by
              refine bt_ext hz ⟨by omega, by omega⟩ (fun i hi64 => ?_)
              rw [bt_0]
              cases hb : bt z i with
              | false => rfl
              | true =>
                have := ct_lt (p := fun _ => false) (q := bt z) 64 (fun _ _ h => by cases h) ⟨i, hi64, rfl, hb⟩
                omega
            refine k_142_62 hO0 hO1 hA2 hA5 ⟨hz, ?_⟩
            rw [if_pos hz0]
            refine ⟨by omega, by omega, fun u5 e5 => nxt u5 y e5 (fin z y hz0 hy hi)⟩
          | succ m' ih' =>
            intro z y hm hz hy hsub hi
            refine k_142_62 hO0 hO1 hA2 hA5 ⟨hz, ?_⟩
            by_cases hz0 : z = 0
            · rw [if_pos hz0]
              refine ⟨by omega, by omega, fun u5 e5 => nxt u5 y e5 (fin z y hz0 hy hi)⟩
            · rw [if_neg hz0]
              obtain ⟨t, t1, t2, t3, t4, t5⟩ := bits_ct hz hz0
              obtain ⟨a1, a2⟩ := (hx.2 t).mp (hsub t t3)
              rw [t2, e2]
              refine ⟨by omega, by omega, ih' _ _ (by omega) (rl_land _ _) (rl_lor _ _) (fun i h => ?_) (fun i => ?_)⟩
              · rw [t4, Bool.and_eq_true] at h
                exact hsub i h.1
              · rw [bt_lor, Bool.or_eq_true, hi i]
                constructor
                · rintro (⟨s, b1, b2, b3⟩ | h)
                  · exact ⟨s, b1, by rw [t4, b2]; rfl, b3⟩
                  · exact ⟨t, hsub t t3, by rw [t4]; simp, h⟩
                · rintro ⟨s, b1, b2, b3⟩
                  by_cases e : s = t
                  · rw [e] at b3
                    exact Or.inr b3
                  · rw [t4] at b2
                    refine Or.inl ⟨s, b1, ?_, b3⟩
                    simpa [e] using b2
        refine loop 64 x 0 (ct_le _ 64) hx.1 ⟨by omega, by omega⟩ (fun i h => h) (fun i => ?_)
        rw [bt_0]
        constructor
        · intro h; cases h
        · rintro ⟨s, b1, b2, -⟩
          rw [b1] at b2
          cases b2
  refine e_142 hO0 hO1 hA2 hA5 ⟨by omega, fun u2 e2 => ?_⟩
  refine main (u.1 (l0 + 3) r).toNat 0 u2 _ (by omega) (by rw [e2]; exact sb1_wr (sb1_refl _ _) (by simp)) (by rw [e2, wr_2]) (stB_1 hn hp) (fun k' hk' => ?_)
  have e0 : k' = 0 := by omega
  rw [e0, e2]
  show stB n ((wr u l5 0 (lshl 1 p)).1 l5 0) _
  rw [wr_self]
  exact stB_1 hn hp
