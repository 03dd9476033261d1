/-! Triples that stand in trees: one rule from one row on -/
theorem fol_step {F : Int → Int → Int → Prop} {dl : Int → Int → Int} {l : Int → Int} {n : Nat} {p : Int} {k : Nat} {o b : Int} (ho : iR n o) (h : fol F dl l n p k o) (hs : stC F dl (l k) o b) : fol F dl l n p (k + 1) b := ⟨o, ho, h, hs⟩
theorem suf_step {F : Int → Int → Int → Prop} {dl : Int → Int → Int} {l : Int → Int} {n : Nat} {q sz : Int} {j : Nat} {o : Int} : suf F dl l n q sz (j + 1) o ↔ ∃ b, iR n b ∧ suf F dl l n q sz j b ∧ stC F dl (l (sz - ((j : Int) + 1))) o b := Iff.rfl
theorem q_194 {d a nv nr n mk : Nat} {v : uS} {r from' X : Int} {E : Int → Prop} {Sx : Int → Int → Int → Prop} (ha : a = 193 ∨ a = 212) (hmk : mk = 59 ∨ mk = 61) (hO : isO a 9) (hM : isO mk 5) (hG : GMc v nv nr n mk) (e2 : v.2 a 2 = 6) (e3 : v.2 a 3 = mk) (hr0 : 0 ≤ r) (hr1 : r < nr) (hfr : iR n from') (hk : okF nv n (v.1 (a + 1))) (hQ : QI v a nv n) (hX : stB n X E) (hS : ∀ (k : Nat) (y o b q : Int), (k : Int) < v.1 9 r → lrw v r k = 100 + y → iR n o → iR n b → iR n q → fol (Fg nv n (v.1 (a + 1))) (dlt v mk) (lrw v r) n from' k o → Fg nv n (v.1 (a + 1)) y o b → suf (Fg nv n (v.1 (a + 1))) (dlt v mk) (lrw v r) n q (v.1 9 r) (v.1 9 r - k - 1).toNat b → E q → Sx y o b) (hin : ∀ y o q, Fs v a nv n y o q → Sx y o q) : cV (d + 8) 194 [.ref a, iV r, iV from', lV X] v (fun w => GRw v w a nv n ∧ (∀ y o q, Fs w a nv n y o q → Sx y o q) ∧ ∀ (k : Nat) (y o b q : Int), (k : Int) < v.1 9 r → lrw v r k = 100 + y → iR n o → iR n b → iR n q → fol (Fg nv n (v.1 (a + 1))) (dlt v mk) (lrw v r) n from' k o → Fg nv n (v.1 (a + 1)) y o b → suf (Fg nv n (v.1 (a + 1))) (dlt v mk) (lrw v r) n q (v.1 9 r) (v.1 9 r - k - 1).toNat b → E q → Fs w a nv n y o b) := by
  obtain ⟨g1, g2, g3, g4, g5, g6, g7, g8, g9⟩ := id hG
  obtain ⟨x1, x2, x3, x4⟩ := g5 r hr0 hr1
  refine e_194 (d := d + 5) hO ?_
  rw [e2, e3]
  have hq := p_142 (d := d + 2) (n := n) (nv := nv) (l0 := 6) (mk := mk) (l2 := a + 1) (l5 := a + 13) (u := v) (r := r) (p := from') (F := Fg nv n (v.1 (a + 1))) sx_6 hM (sa_9_1 hO) (sa_9_4 hO) rfl rfl g7 g1 (by omega) ⟨hr0, by omega⟩ ⟨x2, x3⟩ x4 g9 (fun x o hx ho => stB_F hk hx ho) hfr
  refine cV.mono hq (Nat.le_refl _) (fun u1 ⟨s1, s2, s3⟩ => ?_)
  have h12 : u1.2 a 2 = 6 := by rw [s2]; exact e2
  have h19 : u1.1 (6 + 3) = v.1 9 := s1 _ (by simp only [List.mem_singleton]; omega)
  rw [h12, h19]
  refine ⟨sx_6, hr0, by omega, x2, by omega, ?_⟩
  generalize hF : Fg nv n (v.1 (a + 1)) = F at *
  generalize hD : dlt v mk = D at *
  generalize hR : lrw v r = R at *
  have s3' : ∀ k : Nat, (k : Int) ≤ v.1 9 r → stB n (u1.1 (a + 13) k) (fol F D R n from' k) := fun k hk' => by
    have := s3 k hk'
    rw [← hD, ← hR]
    exact this
  clear s3
  generalize hlen : v.1 9 r = len at *
  -- the state behind follow
  have hQ1 : QI u1 a nv n := by
    have b1 : u1.1 a = v.1 a := s1 _ (by simp only [List.mem_singleton]; omega)
    have b2 : u1.1 (a + 14) = v.1 (a + 14) := s1 _ (by simp only [List.mem_singleton]; omega)
    have b3 : u1.1 (a + 15) = v.1 (a + 15) := s1 _ (by simp only [List.mem_singleton]; omega)
    have b4 : u1.1 (a + 16) = v.1 (a + 16) := s1 _ (by simp only [List.mem_singleton]; omega)
    unfold QI flg at hQ ⊢
    rw [b1, b2, b3, b4]
    exact hQ
  have hGR1 : GRw v u1 a nv n := by
    have b1 : u1.1 a = v.1 a := s1 _ (by simp only [List.mem_singleton]; omega)
    have b2 : u1.1 (a + 14) = v.1 (a + 14) := s1 _ (by simp only [List.mem_singleton]; omega)
    have b4 : u1.1 (a + 16) = v.1 (a + 16) := s1 _ (by simp only [List.mem_singleton]; omega)
    refine ⟨s2, fun b hb => s1 b (by simp only [List.mem_cons, List.not_mem_nil, or_false, not_or] at hb ⊢; exact hb.2.1), fun i _ => by rw [b1], hQ1, fun j i h => by rw [b2]; exact h, fun j h => ?_, by rw [b1, b2]; exact Int.le_refl _⟩
    rw [b4] at h
    rw [b2]
    exact ⟨h, rfl⟩
  have frm : ∀ w : uS, GRw v w a nv n → w.2 a 2 = 6 ∧ w.2 a 3 = mk ∧ w.1 (6 + 4) = v.1 10 ∧ w.1 (mk + 1) = v.1 (mk + 1) ∧ w.1 (a + 1) = v.1 (a + 1) := fun w hw => by
    refine ⟨by rw [hw.1]; exact e2, by rw [hw.1]; exact e3, hw.2.1 _ ?_, hw.2.1 _ ?_, hw.2.1 _ ?_⟩ <;> simp only [List.mem_cons, List.not_mem_nil, or_false] <;> omega
  have levels : ∀ (m' j : Nat) (w : uS) (B : Int), (j : Int) + m' = len → GRw v w a nv n → w.1 (a + 13) = u1.1 (a + 13) → (∀ y o q, Fs w a nv n y o q → Sx y o q) → stB n B (fun o => fol F D R n from' (len - j).toNat o ∧ ∃ q, iR n q ∧ E q ∧ suf F D R n q len j o) → (∀ (k : Nat) (y o b q : Int), len - j ≤ (k : Int) → (k : Int) < len → R k = 100 + y → iR n o → iR n b → iR n q → fol F D R n from' k o → F y o b → suf F D R n q len (len - k - 1).toNat b → E q → Fs w a nv n y o b) → K_194 (d + 7) 52 [.ref a, iV r, .retAddr 0, .retAddr 0, .retAddr 0, lV B, .retAddr 0, iV (len - 1 - j), .retAddr 0, .retAddr 0, .retAddr 0, .retAddr 0, .retAddr 0, .retAddr 0] [] w (fun w => GRw v w a nv n ∧ (∀ y o q, Fs w a nv n y o q → Sx y o q) ∧ ∀ (k : Nat) (y o b q : Int), (k : Int) < len → R k = 100 + y → iR n o → iR n b → iR n q → fol F D R n from' k o → F y o b → suf F D R n q len (len - k - 1).toNat b → E q → Fs w a nv n y o b) := by
    intro m'
    induction m' with
    | zero =>
      intro j w B hj hw h13 hin' hB hc
      refine k_194_52 (d := d + 5) hO ⟨⟨by omega, by omega⟩, ?_⟩
      rw [if_pos (by omega)]
      exact ⟨hw, hin', fun k y o b q k1 => hc k y o b q (by omega) k1⟩
    | succ m' ih =>
      intro j w B hj hw h13 hin' hB hc
      obtain ⟨f1, f2, f3, f4, f5⟩ := frm w hw
      obtain ⟨kk, hkk⟩ : ∃ kk : Nat, len - 1 - (j : Int) = kk := ⟨(len - 1 - j).toNat, by omega⟩
      rw [hkk]
      refine k_194_52 (d := d + 5) hO ⟨⟨by omega, by omega⟩, ?_⟩
      rw [if_neg (by omega), f1, f3, h13]
      refine ⟨sx_6, by omega, by omega, by omega, ?_⟩
      have hRk : v.1 10 (r * 6 + (kk : Int)) = R kk := by rw [← hR]
      rw [hRk]
      have hsym : symR nv (R kk) := by
        have := x4 kk (by omega) (by omega)
        rw [hRk] at this
        exact this
      have hA := s3' kk (by omega)
      generalize hAx : u1.1 (a + 13) (kk : Int) = AX at hA
      have ejk : (len - (j : Int)).toNat = kk + 1 := by omega
      rw [ejk] at hB
      have ejj : len - ((j : Int) + 1) = kk := by omega
      have inner : ∀ (mm : Nat) (x y : Int) (w : uS), ct (bt x) 64 ≤ mm → rL x → rL y → (∀ i, bt x i = true → bt AX i = true) → GRw v w a nv n → w.1 (a + 13) = u1.1 (a + 13) → (∀ y o q, Fs w a nv n y o q → Sx y o q) → (∀ (k : Nat) (y o b q : Int), len - j ≤ (k : Int) → (k : Int) < len → R k = 100 + y → iR n o → iR n b → iR n q → fol F D R n from' k o → F y o b → suf F D R n q len (len - k - 1).toNat b → E q → Fs w a nv n y o b) → (∀ i : Nat, bt y i = true ↔ (bt AX i = true ∧ bt x i = false ∧ ∃ b, iR n b ∧ (fol F D R n from' (kk + 1) b ∧ ∃ q, iR n q ∧ E q ∧ suf F D R n q len j b) ∧ stC F D (R kk) i b)) → (∀ i : Nat, bt AX i = true → bt x i = false → ∀ y b q : Int, R kk = 100 + y → iR n b → iR n q → F y i b → suf F D R n q len j b → E q → Fs w a nv n y i b) → K_194 (d + 7) 81 [.ref a, iV r, .retAddr 0, .retAddr 0, .retAddr 0, lV B, .retAddr 0, iV (kk : Int), iV (R kk), lV y, .retAddr 0, lV x, .retAddr 0, .retAddr 0] [] w (fun w => GRw v w a nv n ∧ (∀ y o q, Fs w a nv n y o q → Sx y o q) ∧ ∀ (k : Nat) (y o b q : Int), (k : Int) < len → R k = 100 + y → iR n o → iR n b → iR n q → fol F D R n from' k o → F y o b → suf F D R n q len (len - k - 1).toNat b → E q → Fs w a nv n y o b) := by
        have done : ∀ (x y : Int) (w : uS), x = 0 → rL y → GRw v w a nv n → w.1 (a + 13) = u1.1 (a + 13) → (∀ y o q, Fs w a nv n y o q → Sx y o q) → (∀ (k : Nat) (y o b q : Int), len - j ≤ (k : Int) → (k : Int) < len → R k = 100 + y → iR n o → iR n b → iR n q → fol F D R n from' k o → F y o b → suf F D R n q len (len - k - 1).toNat b → E q → Fs w a nv n y o b) → (∀ i : Nat, bt y i = true ↔ (bt AX i = true ∧ bt x i = false ∧ ∃ b, iR n b ∧ (fol F D R n from' (kk + 1) b ∧ ∃ q, iR n q ∧ E q ∧ suf F D R n q len j b) ∧ stC F D (R kk) i b)) → (∀ i : Nat, bt AX i = true → bt x i = false → ∀ y b q : Int, R kk = 100 + y → iR n b → iR n q → F y i b → suf F D R n q len j b → E q → Fs w a nv n y i b) → K_194 (d + 7) 52 [.ref a, iV r, .retAddr 0, .retAddr 0, .retAddr 0, lV y, .retAddr 0, iV ((kk : Int) + (-1)), .retAddr 0, .retAddr 0, .retAddr 0, .retAddr 0, .retAddr 0, .retAddr 0] [] w (fun w => GRw v w a nv n ∧ (∀ y o q, Fs w a nv n y o q → Sx y o q) ∧ ∀ (k : Nat) (y o b q : Int), (k : Int) < len → R k = 100 + y → iR n o → iR n b → iR n q → fol F D R n from' k o → F y o b → suf F D R n q len (len - k - 1).toNat b → E q → Fs w a nv n y o b) := by
          intro x y w hx0 hy hw h13 hin' hc hyi hcc
          have e1 : (kk : Int) + -1 = len - 1 - ((j + 1 : Nat) : Int) := by omega
          rw [e1]
          refine ih (j + 1) w y (by omega) hw h13 hin' ?_ ?_
          · have e4 : (len - ((j + 1 : Nat) : Int)).toNat = kk := by omega
            rw [e4]
            refine ⟨hy, fun i => ?_⟩
            rw [hyi i]
            constructor
            · rintro ⟨z1, -, b, zb, ⟨-, q, q1, q2, q3⟩, zs⟩
              obtain ⟨z3, z4⟩ := (hA.2 i).mp z1
              refine ⟨z3, z4, q, q1, q2, suf_step.mpr ⟨b, zb, q3, ?_⟩⟩
              rw [ejj]
              exact zs
            · rintro ⟨z1, z2, q, q1, q2, q3⟩
              obtain ⟨b, zb, zs, zt⟩ := suf_step.mp q3
              rw [ejj] at zt
              exact ⟨(hA.2 i).mpr ⟨z1, z2⟩, by rw [hx0, bt_0], b, zb, ⟨fol_step ⟨by omega, z1⟩ z2 zt, q, q1, q2, zs⟩, zt⟩
          · intro k y' o b q k0 k1 hRk' ho hb hq hf hFy hsuf hE
            by_cases e : (k : Int) = kk
            · have ek : k = kk := by omega
              rw [ek] at hRk' hf hsuf
              have eo : ((o.toNat : Nat) : Int) = o := by have := ho.1; omega
              have ejs : (len - (kk : Int) - 1).toNat = j := by omega
              rw [ejs] at hsuf
              have := hcc o.toNat ((hA.2 o.toNat).mpr (by rw [eo]; exact ⟨ho.2, hf⟩)) (by rw [hx0, bt_0]) y' b q hRk' hb hq (by rw [eo]; exact hFy) hsuf hE
              rw [eo] at this
              exact this
            · exact hc k y' o b q (by omega) k1 hRk' ho hb hq hf hFy hsuf hE
        intro mm
        induction mm with
        | zero =>
          intro x y w hm hx hy hsub hw h13 hin' hc hyi hcc
          have hx0 : x = 0 := by
            refine bt_ext hx ⟨by omega, by omega⟩ (fun i hi64 => ?_)
            rw [bt_0]
            cases hb : bt x i with
            | false => rfl
            | true =>
              have := ct_lt (p := fun _ => false) (q := bt x) 64 (fun _ _ h => by cases h) ⟨i, hi64, rfl, hb⟩
              omega
          refine k_194_81 (d := d + 5) hO ⟨hx, ?_⟩
          rw [if_pos hx0]
          exact done x y w hx0 hy hw h13 hin' hc hyi hcc
        | succ mm ih2 =>
          intro x y w hm hx hy hsub hw h13 hin' hc hyi hcc
          refine k_194_81 (d := d + 5) hO ⟨hx, ?_⟩
          by_cases hx0 : x = 0
          · rw [if_pos hx0]
            exact done x y w hx0 hy hw h13 hin' hc hyi hcc
          · rw [if_neg hx0]
            obtain ⟨t, t1, t2, t3, t4, t5⟩ := bits_ct hx hx0
            have tA := hsub t t3
            obtain ⟨tn, tf⟩ := (hA.2 t).mp tA
            have tR : iR n (t : Int) := ⟨by omega, tn⟩
            obtain ⟨f1, f2, f3, f4, f5⟩ := frm w hw
            rw [t2]
            have hF1 : Fg nv n (w.1 (a + 1)) = F := by rw [f5, hF]
            have hD1 : dlt w mk = D := by rw [← hD]; unfold dlt; rw [f4]
            have h95 := q_195 (d := d + 5) (v := w) (s := R kk) (o := (t : Int)) (X := B) hO ha hM hmk g1 g7 f2 hsym tR (by rw [f4]; exact g9) (by rw [f5]; exact hk) hw.2.2.2.1 hB
            rw [hF1, hD1] at h95
            refine cI.mono h95 (Nat.le_refl _) (fun c w' ⟨z1, z2, z3, z4, z5, z6⟩ => ?_)
            refine ⟨by rcases z1 with z | z <;> rw [z] <;> decide, ?_⟩
            have hw' : GRw v w' a nv n := GRw_trans hw z2
            have hin2 : ∀ y o q, Fs w' a nv n y o q → Sx y o q := fun y' o' q' h => by
              rcases z6 y' o' q' h with k | ⟨k1, k2, k3, ⟨k4, q, q1, q2, q3⟩, k5⟩
              · exact hin' y' o' q' k
              · have e5 : R kk = 100 + y' := by omega
                have e6 : (len - (kk : Int) - 1).toNat = j := by omega
                have hq'R : iR n q' := by
                  rw [← hF] at k5
                  exact k5.2.2.1
                refine hS kk y' o' q' q (by omega) e5 (by rw [k3]; exact tR) hq'R q1 (by rw [k3]; exact tf) (by rw [k2, k3]; exact k5) (by rw [e6]; exact q3) q2
            have hc2 : ∀ (k : Nat) (y o b q : Int), len - j ≤ (k : Int) → (k : Int) < len → R k = 100 + y → iR n o → iR n b → iR n q → fol F D R n from' k o → F y o b → suf F D R n q len (len - k - 1).toNat b → E q → Fs w' a nv n y o b := fun k y' o b q k0 k1 k2 k3 k4 k5 k6 k7 k8 k9 => GRw_Fs z2 (hc k y' o b q k0 k1 k2 k3 k4 k5 k6 k7 k8 k9)
            have h13' : w'.1 (a + 13) = u1.1 (a + 13) := z3.trans h13
            have hcc2 : ∀ i : Nat, bt AX i = true → bt (land x (x - 1)) i = false → ∀ y b q : Int, R kk = 100 + y → iR n b → iR n q → F y i b → suf F D R n q len j b → E q → Fs w' a nv n y i b := by
              intro i hi hxi y' b q hy' hb hq hFy hsuf hE
              by_cases e : i = t
              · rw [e] at hFy ⊢
                have e5 : R kk - 100 = y' := by omega
                have h5 := z5 (by
                  rcases hsym with k | k
                  · have hy0 : 0 ≤ y' := by
                      rw [← hF] at hFy
                      exact hFy.1.1
                    omega
                  · exact k.1) b hb ⟨fol_step tR tf (by
                    unfold stC
                    have hy0 : 0 ≤ y' := by
                      rw [← hF] at hFy
                      exact hFy.1.1
                    rw [if_neg (by omega), e5]
                    exact hFy), q, hq, hE, hsuf⟩ (by rw [e5]; exact hFy)
                rw [e5] at h5
                exact h5
              · rw [t4] at hxi
                exact GRw_Fs z2 (hcc i hi (by simpa [e] using hxi) y' b q hy' hb hq hFy hsuf hE)
            by_cases hc0 : c = 0
            · rw [if_pos hc0]
              refine ih2 _ y w' (by omega) (rl_land _ _) hy (fun i h => ?_) hw' h13' hin2 hc2 (fun i => ?_) hcc2
              · rw [t4, Bool.and_eq_true] at h
                exact hsub i h.1
              · rw [hyi i, t4]
                constructor
                · rintro ⟨k1, k2, k3⟩
                  exact ⟨k1, by rw [k2]; rfl, k3⟩
                · rintro ⟨k1, k2, k3⟩
                  by_cases e : i = t
                  · rw [e] at k3
                    have := z4.mpr k3
                    omega
                  · exact ⟨k1, by simpa [e] using k2, k3⟩
            · rw [if_neg hc0]
              refine ih2 _ _ w' (by omega) (rl_land _ _) (rl_lor _ _) (fun i h => ?_) hw' h13' hin2 hc2 (fun i => ?_) hcc2
              · rw [t4, Bool.and_eq_true] at h
                exact hsub i h.1
              · have hc1 : c = 1 := by omega
                rw [bt_lor, Bool.or_eq_true, hyi i, t4, bt_bit (by omega) (by omega), decide_eq_true_eq]
                constructor
                · rintro (⟨k1, k2, k3⟩ | k)
                  · exact ⟨k1, by rw [k2]; rfl, k3⟩
                  · have ei : i = t := by omega
                    rw [ei]
                    exact ⟨tA, by simp, z4.mp hc1⟩
                · rintro ⟨k1, k2, k3⟩
                  by_cases e : i = t
                  · exact Or.inr (by omega)
                  · exact Or.inl ⟨k1, by simpa [e] using k2, k3⟩
      refine inner 64 AX 0 w (ct_le _ 64) hA.1 ⟨by omega, by omega⟩ (fun i h => h) hw h13 hin' hc (fun i => ?_) (fun i hi hx => ?_)
      · rw [bt_0]
        constructor
        · intro h; cases h
        · rintro ⟨k1, k2, -⟩
          rw [k1] at k2
          cases k2
      · rw [hi] at hx
        cases hx
  have hlast := s3' len.toNat (by omega)
  have elen : ((len.toNat : Nat) : Int) = len := by omega
  rw [elen] at hlast
  have e0 : len - 1 = len - 1 - ((0 : Nat) : Int) := by omega
  rw [e0]
  refine levels len.toNat 0 u1 _ (by omega) hGR1 rfl (fun y o q h => hin y o q ?_) ⟨rl_land _ _, fun i => ?_⟩ (fun k y o b q k0 k1 => by omega)
  · have b2 : u1.1 (a + 14) = v.1 (a + 14) := s1 _ (by simp only [List.mem_singleton]; omega)
    unfold Fs at h ⊢
    rw [b2] at h
    exact h
  · have e4 : (len - ((0 : Nat) : Int)).toNat = len.toNat := by omega
    rw [bt_land, Bool.and_eq_true, hlast.2 i, hX.2 i, e4]
    constructor
    · rintro ⟨⟨k1, k2⟩, -, k3⟩
      exact ⟨k1, k2, i, ⟨by omega, k1⟩, k3, rfl⟩
    · rintro ⟨k1, k2, q, k3, k4, k5⟩
      have k5' : (i : Int) = q := k5
      rw [← k5'] at k4
      exact ⟨⟨k1, k2⟩, k1, k4⟩
