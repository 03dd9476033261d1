/-! The witness: leastRest -/
theorem bits_ind {P : Int → Prop} (h0 : P 0) (hs : ∀ (X : Int) (t : Nat), rL X → X ≠ 0 → t < 64 → ntz X = t → bt X t = true → (∀ j, j < t → bt X j = false) → (∀ j, bt (land X (X - 1)) j = (bt X j && decide (j ≠ t))) → P (land X (X - 1)) → P X) : ∀ X, rL X → P X := by
  have main : ∀ (m : Nat) (X : Int), ct (bt X) 64 ≤ m → rL X → P X := by
    intro m
    induction m with
    | zero =>
      intro X hm hX
      have : X = 0 := by
        refine bt_ext hX ⟨by omega, by omega⟩ (fun i hi => ?_)
        rw [bt_0]
        cases hb : bt X i with
        | false => rfl
        | true =>
          have := ct_lt (p := fun _ => false) (q := bt X) 64 (fun _ _ h => by cases h) ⟨i, hi, rfl, hb⟩
          omega
      rw [this]
      exact h0
    | succ m ih =>
      intro X hm hX
      by_cases e : X = 0
      · rw [e]; exact h0
      · obtain ⟨t, t1, t2, t3, t4, t5⟩ := ntz_spec hX e
        refine hs X t hX e t1 t2 t3 t4 t5 (ih _ ?_ (rl_land _ _))
        have : ct (bt (land X (X - 1))) 64 < ct (bt X) 64 := ct_lt 64 (fun i _ h => by rw [t5, Bool.and_eq_true] at h; exact h.1) ⟨t, t1, by rw [t5]; simp, t3⟩
        omega
  exact fun X hX => main 64 X (ct_le _ 64) hX
def sW (M : Mg) (mk : Nat) (L H : T3) (v : uS) : Prop := v.2 231 3 = mk ∧ v.1 255 1 = xr M ∧ (∀ r : Int, 0 ≤ r → r < xr M → v.1 257 r = xh M r ∧ v.1 258 r = xl M r ∧ ∀ k : Int, 0 ≤ k → k < xl M r → v.1 259 (r * 6 + k) = xy M r k) ∧ (∀ o s : Int, v.1 (mk + 1) (o * 10 + s) = xd M o s) ∧ v.1 232 2 = xn M ∧ okF (xv M) (xn M) (v.1 247) ∧ rgt M L H v
theorem q_168 {e mk d : Nat} {M : Mg} {L H : T3} {u : uS} {r q o h : Int} (hMO : isO mk 5) (hM : Mok M) (hS : LHs M L H) (hW : sW M mk L H u) (r0 : 0 ≤ r) (r1 : r < xr M) (hd : (d : Int) < xl M r) (ho : iR (xn M) o) (hh : rI h) (hZ : ∀ b c1 g1, iR (xn M) b → stk M (Kv M u) L H (xy M r d) o b c1 g1 → mnv (lkw M (Kl (Kv M u) H h) L H r q ((xl M r).toNat - d - 1) b) (u.1 270 (((d : Int) + 1) * 40 + b))) : cL (e + 3) 168 [.ref 231, iV r, iV (d : Int), iV o, iV h] u (fun c w => w = u ∧ mnv (lkw M (Kl (Kv M u) H h) L H r q ((xl M r).toNat - d) o) c) := by
  obtain ⟨m1, m2, m3, m4, m5, m6⟩ := id hM
  obtain ⟨nb1, nb2, nb3, nb4⟩ := nn_b m1 m4
  obtain ⟨l1, l2, l3, l4⟩ := m5 r r0 r1
  obtain ⟨w1, w2, w3, w4, w5, w6, w7⟩ := id hW
  have hsy := l4 d (by omega) hd
  have esy := (w3 r r0 r1).2.2 d (by omega) hd
  have o0 := ho.1
  have o1 := ho.2
  have ej : (xl M r).toNat - d = ((xl M r).toNat - d - 1) + 1 := by omega
  have ei : xl M r - ((((xl M r).toNat - d - 1 : Nat) : Int) + 1) = (d : Int) := by omega
  refine e_168 ?_
  rw [esy, w1]
  refine ⟨by omega, by omega, ?_, ?_⟩
  · unfold symR at hsy
    exact ⟨by omega, by omega⟩
  by_cases c1 : xy M r d < 100
  · rw [if_pos c1, w4]
    have hx1 : iR (xn M) (xd M o (xy M r d)) := m6 o _ ho (by unfold symR at hsy; omega) (by unfold symR at hsy; omega)
    have hz := hZ (xd M o (xy M r d)) 1 0 hx1 (by unfold stk; rw [if_pos c1]; exact ⟨rfl, rfl, rfl⟩)
    have hs10 : 0 ≤ xy M r d ∧ xy M r d < 10 := by unfold symR at hsy; omega
    have x10 := hx1.1
    have x11 := hx1.2
    refine ⟨hMO, by omega, by omega, by omega, by omega, Or.inr (by omega), mnv_cn hz, rfl, ?_⟩
    refine mnv_congr (mnv_add hz ⟨by omega, by omega⟩) (fun c => ?_)
    rw [ej, lkw_succ, ei]
    constructor
    · rintro ⟨c', h1, h2⟩
      refine ⟨_, 1, 0, c', hx1, ?_, h1, h2⟩
      unfold stk
      rw [if_pos c1]
      exact ⟨rfl, rfl, rfl⟩
    · rintro ⟨b, c2, g2, c', h1, h2, h3, h4⟩
      unfold stk at h2
      rw [if_pos c1] at h2
      rw [h2.1] at h3
      exact ⟨c', h3, by rw [h4, h2.2.1]⟩
  · rw [if_neg c1]
    have hx : iR (xv M) (xy M r d - 100) := by
      unfold symR at hsy
      exact ⟨by omega, by omega⟩
    have x0 := hx.1
    have x1 := hx.2
    obtain ⟨hrow, hbit⟩ := stB_F w6 hx ho
    refine ⟨by omega, by omega, ?_⟩
    generalize hX : u.1 247 ((xy M r d - 100) * 40 + o) = X at hrow hbit ⊢
    generalize hQQ : (fun (c : Int) (w : uS) => w = u ∧ mnv (lkw M (Kl (Kv M u) H h) L H r q ((xl M r).toNat - d) o) c) = Q
    have loop : ∀ Y, rL Y → (∀ i, bt Y i = true → bt X i = true) → ∀ least, mnv (fun c => ∃ b : Nat, bt X b = true ∧ bt Y b = false ∧ H (xy M r d - 100) o b < h ∧ ∃ c', lkw M (Kl (Kv M u) H h) L H r q ((xl M r).toNat - d - 1) b c' ∧ c = L (xy M r d - 100) o b + c') least → K_168 (e + 2) 77 [.ref 231, .retAddr 0, .retAddr 0, iV o, iV h, .retAddr 0, iV (((d : Int) + 1) * 40), iV (xy M r d - 100), lV least, .retAddr 0, lV Y, .retAddr 0, .retAddr 0, .retAddr 0] [] u Q := by
      refine bits_ind ?_ ?_
      · intro _ least hm
        refine k_168_77 ⟨⟨by omega, by omega⟩, ?_⟩
        rw [if_pos rfl, ← hQQ]
        refine ⟨rfl, mnv_congr hm (fun c => ?_)⟩
        rw [ej, lkw_succ, ei]
        constructor
        · rintro ⟨b, b1, -, b3, c', b4, b5⟩
          obtain ⟨z1, z2⟩ := (hbit b).mp b1
          refine ⟨(b : Int), L (xy M r d - 100) o b, H (xy M r d - 100) o b, c', ⟨by omega, z1⟩, ?_, b4, b5⟩
          unfold stk
          rw [if_neg c1]
          exact ⟨⟨z2, b3⟩, rfl, rfl⟩
        · rintro ⟨b, c2, g2, c', h1, h2, h3, h4⟩
          unfold stk at h2
          rw [if_neg c1] at h2
          have hb0 := h1.1
          have eb : ((b.toNat : Nat) : Int) = b := by omega
          refine ⟨b.toNat, (hbit b.toNat).mpr ?_, bt_0 _, ?_, c', ?_, ?_⟩
          · rw [eb]; exact ⟨h1.2, h2.1.1⟩
          · rw [eb]; exact h2.1.2
          · rw [eb]; exact h3
          · rw [eb, h4, h2.2.1]
      · intro Y t hY hY0 t1 t2 t3 t4 t5 ih hsub least hm
        obtain ⟨z1, z2⟩ := (hbit t).mp (hsub t t3)
        have htR : iR (xn M) (t : Int) := ⟨by omega, z1⟩
        obtain ⟨b1, b2, b3, b4⟩ := tcx_b hx ho htR
        obtain ⟨hfe, v44, v45⟩ := w7 _ _ _ z2
        obtain ⟨fb1, fb2, fb3⟩ := Fe_b hS hfe
        have hz := hZ (t : Int) _ _ htR (by unfold stk; rw [if_neg c1]; exact ⟨z2, rfl, rfl⟩)
        have hsub' : ∀ i, bt (land Y (Y - 1)) i = true → bt X i = true := fun i hi => by
          rw [t5, Bool.and_eq_true] at hi
          exact hsub i hi.1
        refine k_168_77 ⟨hY, ?_⟩
        rw [if_neg hY0, t2, w5, show ((xy M r d - 100) * (xn M : Int) + o) * (xn M : Int) + (t : Int) = tcx (xn M) (xy M r d - 100) o t from rfl, v44, v45]
        refine ⟨b3, by omega, ⟨by omega, by omega⟩, hh, ?_⟩
        by_cases ch : H (xy M r d - 100) o t < h
        · rw [if_pos ch]
          refine ⟨by omega, by omega, Or.inr fb1, mnv_cn hz, mnv_rL hm, ih hsub' _ (mnv_congr (mnv_or hm (mnv_add hz fb1)) (fun c => ?_))⟩
          constructor
          · rintro (⟨b, q1, q2, q3, c', q4, q5⟩ | ⟨c', q1, q2⟩)
            · exact ⟨b, q1, by rw [t5, q2]; rfl, q3, c', q4, q5⟩
            · exact ⟨t, hsub t t3, by rw [t5]; simp, ch, c', q1, q2⟩
          · rintro ⟨b, q1, q2, q3, c', q4, q5⟩
            by_cases e : b = t
            · rw [e] at q4 q5
              exact Or.inr ⟨c', q4, q5⟩
            · rw [t5] at q2
              exact Or.inl ⟨b, q1, by simpa [e] using q2, q3, c', q4, q5⟩
        · rw [if_neg ch]
          refine ih hsub' _ (mnv_congr hm (fun c => ?_))
          constructor
          · rintro ⟨b, q1, q2, q3, c', q4, q5⟩
            exact ⟨b, q1, by rw [t5, q2]; rfl, q3, c', q4, q5⟩
          · rintro ⟨b, q1, q2, q3, c', q4, q5⟩
            by_cases e : b = t
            · rw [e] at q3
              exact absurd q3 ch
            · rw [t5] at q2
              exact ⟨b, q1, by simpa [e] using q2, q3, c', q4, q5⟩
    refine loop X hrow (fun i hi => hi) _ (mnv_congr mnv_emp (fun c => ⟨fun hf => hf.elim, ?_⟩))
    rintro ⟨b, q1, q2, -⟩
    rw [q1] at q2
    cases q2
