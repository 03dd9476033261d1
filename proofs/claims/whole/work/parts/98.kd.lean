/-! The witness: fits -/
theorem fol_l {F : Int → Int → Int → Prop} {dl : Int → Int → Int} {l l' : Int → Int} {n : Nat} {p : Int} : ∀ (k : Nat) (q : Int), (∀ i : Nat, i < k → l i = l' i) → fol F dl l n p k q → fol F dl l' n p k q
  | 0, _, _, h0 => h0
  | k + 1, q, he, ⟨o, h1, h2, h3⟩ => by
    refine ⟨o, h1, fol_l k o (fun i hi => he i (by omega)) h2, ?_⟩
    rw [← he k (by omega)]
    exact h3
def fW : List Nat := [266, 267, 268, 269, 270]
theorem Kv_eq {M : Mg} {v w : uS} (h : w.1 247 = v.1 247) : Kv M w = Kv M v := by
  show Fg (xv M) (xn M) (w.1 247) = Fg (xv M) (xn M) (v.1 247)
  rw [h]
theorem sW_tr {M : Mg} {mk : Nat} {L H : T3} {v w : uS} (hmk : mk = 59 ∨ mk = 61) (h : sW M mk L H v) (h2 : w.2 = v.2) (hs : sb1 v w fW) : sW M mk L H w := by
  have e1 : w.1 255 = v.1 255 := hs _ (by decide)
  have e2 : w.1 257 = v.1 257 := hs _ (by decide)
  have e3 : w.1 258 = v.1 258 := hs _ (by decide)
  have e4 : w.1 259 = v.1 259 := hs _ (by decide)
  have e5 : w.1 (mk + 1) = v.1 (mk + 1) := hs _ (by simp only [fW, List.mem_cons, List.not_mem_nil, or_false]; omega)
  have e6 : w.1 232 = v.1 232 := hs _ (by decide)
  have e7 : w.1 247 = v.1 247 := hs _ (by decide)
  have e8 : w.1 244 = v.1 244 := hs _ (by decide)
  have e9 : w.1 245 = v.1 245 := hs _ (by decide)
  unfold sW rgt at h ⊢
  rw [h2, e1, e2, e3, e4, e5, e6, Kv_eq e7, e7, e8, e9]
  exact h
/-- the rests from symbol m on -/
def RV (M : Mg) (L H : T3) (K : P3) (h r p q : Int) (m : Nat) (v : uS) : Prop := ∀ d : Nat, m ≤ d → (d : Int) ≤ xl M r → ∀ b, iR (xn M) b → fol K (xd M) (xy M r) (xn M) p d b → mnv (lkw M (Kl K H h) L H r q ((xl M r).toNat - d) b) (v.1 270 ((d : Int) * 40 + b))
theorem q_167 {e mk : Nat} {M : Mg} {L H : T3} {u : uS} {x p q r : Int} (hmk : mk = 59 ∨ mk = 61) (hMO : isO mk 5) (hM : Mok M) (hS : LHs M L H) (hW : sW M mk L H u) (hk : Kv M u x p q) (hcl : clK M L H (Kv M u) x p q) (r0 : 0 ≤ r) (r1 : r < xr M) (rh : xh M r = x) : cI (e + 7) 167 [.ref 231, iV r, iV (tcx (xn M) x p q)] u (fun c w => w.2 = u.2 ∧ sb1 u w [269, 270] ∧ ((c = 1 ∧ fit M L H x p q r) ∨ (c = 0 ∧ ¬ fit M L H x p q r)) ∧ RV M L H (Kv M u) (H x p q) r p q 0 w) := by
  obtain ⟨m1, m2, m3, m4, m5, m6⟩ := id hM
  obtain ⟨nb1, nb2, nb3, nb4⟩ := nn_b m1 m4
  obtain ⟨l1, l2, l3, l4⟩ := m5 r r0 r1
  obtain ⟨w1, w2, w3, w4, w5, w6, w7⟩ := id hW
  obtain ⟨a1, a2, a3⟩ := w3 r r0 r1
  obtain ⟨hx, hp, hq, -⟩ := id hk
  obtain ⟨b1, b2, b3, b4⟩ := tcx_b hx hp hq
  obtain ⟨d1, d2, d3, d4⟩ := tcx_d (x := x) hp hq
  obtain ⟨hfe, v44, v45⟩ := w7 x p q hk
  obtain ⟨fb1, fb2, fb3⟩ := Fe_b hS hfe
  have p0 := hp.1
  have p1 := hp.2
  have q0 := hq.1
  have q1 := hq.2
  generalize ht : tcx (xn M) x p q = t at *
  generalize hQQ : (fun (c : Int) (w : uS) => w.2 = u.2 ∧ sb1 u w [269, 270] ∧ ((c = 1 ∧ fit M L H x p q r) ∨ (c = 0 ∧ ¬ fit M L H x p q r)) ∧ RV M L H (Kv M u) (H x p q) r p q 0 w) = Q
  refine e_167 ?_
  rw [w5, w1, a2, Int.tdiv_eq_ediv_of_nonneg b3, d1, Int.tmod_eq_emod_of_nonneg b1, d4]
  refine ⟨⟨by omega, by omega⟩, ⟨by omega, by omega⟩, by omega, ⟨by omega, by omega⟩, r0, by omega, ?_⟩
  have hfo := p_142 (d := e + 1) (n := xn M) (nv := xv M) (l0 := 255) (mk := mk) (l2 := 247) (l5 := 269) (u := u) (r := r) (p := p) (F := Kv M u) sx_255 hMO sx_247 sx_269 rfl rfl m4 m1 (by omega) ⟨r0, by omega⟩ (by show 0 ≤ u.1 258 r ∧ u.1 258 r ≤ 6; rw [a2]; exact ⟨l2, l3⟩) (fun k k0 k1' => by
    have k1'' : k < xl M r := by
      have : k < u.1 258 r := k1'
      rw [a2] at this
      exact this
    show symR (xv M) (u.1 259 (r * 6 + k))
    rw [a3 k k0 k1'']
    exact l4 k k0 k1'') (fun a c ha c0 c1 => by rw [w4]; exact m6 a c ha c0 c1) (fun x o hx ho => stB_F w6 hx ho) hp
  refine cV.mono hfo (Nat.le_refl _) (fun z ⟨z1, z2, z3⟩ => ⟨l2, by omega, ?_⟩)
  have edl : (fun a c : Int => u.1 (mk + 1) (a * 10 + c)) = xd M := by
    funext a c
    exact w4 a c
  have hA : ∀ k : Nat, (k : Int) ≤ xl M r → stB (xn M) (z.1 269 k) (fol (Kv M u) (xd M) (xy M r) (xn M) p k) := fun k hk' => by
    have h3 := z3 k (by show (k : Int) ≤ u.1 258 r; rw [a2]; exact hk')
    rw [edl] at h3
    refine ⟨h3.1, fun i => ?_⟩
    rw [h3.2 i]
    constructor
    · rintro ⟨q1, q2⟩
      exact ⟨q1, fol_l k _ (fun i hi => a3 i (by omega) (by omega)) q2⟩
    · rintro ⟨q1, q2⟩
      exact ⟨q1, fol_l k _ (fun i hi => (a3 i (by omega) (by omega)).symm) q2⟩
  have z1' : sb1 u z [269, 270] := sb1_sub z1 (by decide)
  -- from the last symbol to the first
  have down : ∀ (m : Nat) (w : uS), (m : Int) ≤ xl M r → w.2 = u.2 → sb1 u w [269, 270] → w.1 269 = z.1 269 → RV M L H (Kv M u) (H x p q) r p q m w → K_167 (e + 6) 118 [.ref 231, iV r, iV t, iV p, .retAddr 0, iV ((m : Int) + (-1)), .retAddr 0, .retAddr 0, .retAddr 0] [] w Q := by
    intro m
    induction m with
    | zero =>
      intro w hm w2' ws wA wR
      have hv := wR 0 (Nat.le_refl 0) (by omega) p hp rfl
      rw [show ((0 : Nat) : Int) * 40 + p = p by omega, Nat.sub_zero] at hv
      have e44 : w.1 244 = u.1 244 := ws _ (by decide)
      refine k_167_118 ⟨⟨by omega, by omega⟩, ?_⟩
      rw [if_pos (by omega), e44, v44]
      refine ⟨p0, by omega, b3, by omega, mnv_rL hv, ?_, ?_⟩
      · have := fb1.1
        have := fb1.2
        exact ⟨by omega, by omega⟩
      · have hfv := fit_val hS hfe hcl r0 r1 l2 rh hv
        by_cases c : w.1 270 p = L x p q
        · rw [if_pos c, ← hQQ]
          exact ⟨w2', ws, Or.inl ⟨rfl, hfv.mp c⟩, wR⟩
        · rw [if_neg c, ← hQQ]
          exact ⟨w2', ws, Or.inr ⟨rfl, fun hf => c (hfv.mpr hf)⟩, wR⟩
    | succ m ih =>
      intro w hm w2' ws wA wR
      rw [show (((m + 1 : Nat) : Int) + -1) = (m : Int) by omega]
      refine k_167_118 ⟨⟨by omega, by omega⟩, ?_⟩
      rw [if_neg (by omega)]
      refine ⟨by omega, ?_⟩
      have hAm := hA m (by omega)
      rw [wA]
      have loop : ∀ Y, rL Y → (∀ i, bt Y i = true → bt (z.1 269 m) i = true) → ∀ y : uS, y.2 = u.2 → sb1 u y [269, 270] → y.1 269 = z.1 269 → RV M L H (Kv M u) (H x p q) r p q (m + 1) y → (∀ b : Nat, bt (z.1 269 m) b = true → bt Y b = false → mnv (lkw M (Kl (Kv M u) H (H x p q)) L H r q ((xl M r).toNat - m) b) (y.1 270 ((m : Int) * 40 + b))) → K_167 (e + 6) 132 [.ref 231, iV r, iV t, iV p, .retAddr 0, iV (m : Int), lV Y, .retAddr 0, .retAddr 0] [] y Q := by
        refine bits_ind ?_ ?_
        · intro _ y y2 ys yA yR yD
          refine k_167_132 ⟨⟨by omega, by omega⟩, ?_⟩
          rw [if_pos rfl]
          refine ih y (by omega) y2 ys yA (fun d hd hl b hb hf => ?_)
          by_cases ed : d = m
          · rw [ed] at hf ⊢
            have hb0 := hb.1
            have eb : ((b.toNat : Nat) : Int) = b := by omega
            have := yD b.toNat ((hAm.2 b.toNat).mpr (by rw [eb]; exact ⟨hb.2, hf⟩)) (bt_0 _)
            rw [eb] at this
            exact this
          · exact yR d (by omega) hl b hb hf
        · intro Y s hY hY0 s1 s2 s3 s4 s5 ihY hsub y y2 ys yA yR yD
          obtain ⟨c1, c2⟩ := (hAm.2 s).mp (hsub s s3)
          have hsR : iR (xn M) (s : Int) := ⟨by omega, c1⟩
          have ysW : sW M mk L H y := sW_tr hmk hW y2 (sb1_sub ys (by decide))
          have yK : Kv M y = Kv M u := Kv_eq (ys 247 (by decide))
          have y45 : y.1 245 t = H x p q := by rw [ys 245 (by decide)]; exact v45
          refine k_167_132 ⟨hY, ?_⟩
          rw [if_neg hY0, s2, y45]
          refine ⟨b3, by omega, ?_⟩
          have h168 := q_168 (e := e + 3) (d := m) (q := q) (h := H x p q) hMO hM hS ysW r0 r1 (by omega) hsR ⟨by omega, by omega⟩ (fun b c1' g1' hb hst => by
            rw [yK]
            have := yR (m + 1) (Nat.le_refl _) (by omega) b hb ⟨s, hsR, c2, by
              unfold stk at hst
              by_cases ex : xy M r m < 100
              · rw [if_pos ex] at hst ⊢; exact hst.1.symm
              · rw [if_neg ex, yK] at hst; rw [if_neg ex]; exact hst.1⟩
            rw [show (xl M r).toNat - m - 1 = (xl M r).toNat - (m + 1) by omega]
            rw [show (((m + 1 : Nat) : Int)) = (m : Int) + 1 by omega] at this
            exact this)
          refine cL.mono h168 (Nat.le_refl _) (fun c w ⟨ew, hc⟩ => ?_)
          rw [yK] at hc
          rw [ew]
          refine ⟨by omega, by omega, fun o eo => ?_⟩
          have o70 : o.1 270 = uf (y.1 270) ((m : Int) * 40 + s) c := by rw [eo, wr_uf]
          refine ihY (fun i hi => ?_) o (by rw [eo, wr_2]; exact y2) (by rw [eo]; exact sb1_wr ys (by decide)) (by rw [eo, wr_ne (by omega)]; exact yA) (fun d hd hl b hb hf => ?_) (fun b hb1 hb2 => ?_)
          · rw [s5, Bool.and_eq_true] at hi
            exact hsub i hi.1
          · rw [o70, uf_ne (by have := hb.1; have := hb.2; omega)]
            exact yR d hd hl b hb hf
          · rw [o70]
            by_cases eb : b = s
            · rw [eb, uf_eq]
              exact hc
            · rw [uf_ne (by omega)]
              refine yD b hb1 ?_
              rw [s5] at hb2
              simpa [eb] using hb2
      exact loop _ hAm.1 (fun i hi => hi) w w2' ws wA wR (fun b hb1 hb2 => by rw [hb1] at hb2; cases hb2)
  -- behind the last symbol
  have hAl := hA (xl M r).toNat (by omega)
  rw [show (((xl M r).toNat : Nat) : Int) = xl M r by omega] at hAl
  have last : ∀ Y, rL Y → (∀ i, bt Y i = true → bt (z.1 269 (xl M r)) i = true) → ∀ y : uS, y.2 = u.2 → sb1 u y [269, 270] → y.1 269 = z.1 269 → (∀ b : Nat, bt (z.1 269 (xl M r)) b = true → bt Y b = false → mnv (lkw M (Kl (Kv M u) H (H x p q)) L H r q 0 b) (y.1 270 (xl M r * 40 + b))) → K_167 (e + 6) 53 [.ref 231, iV r, iV t, iV p, iV (xl M r), lV Y, .retAddr 0, .retAddr 0, .retAddr 0] [] y Q := by
    refine bits_ind ?_ ?_
    · intro _ y y2 ys yA yD
      refine k_167_53 ⟨⟨by omega, by omega⟩, ?_⟩
      rw [if_pos rfl]
      have := down (xl M r).toNat y (by omega) y2 ys yA (fun d hd hl b hb hf => by
        have ed : (d : Int) = xl M r := by omega
        have ed' : d = (xl M r).toNat := by omega
        have hb0 := hb.1
        have eb : ((b.toNat : Nat) : Int) = b := by omega
        rw [ed'] at hf
        have hbt : bt (z.1 269 (xl M r)) b.toNat = true := (hAl.2 b.toNat).mpr (by rw [eb]; exact ⟨hb.2, hf⟩)
        have := yD b.toNat hbt (bt_0 _)
        rw [eb] at this
        rw [ed, ed', Nat.sub_self]
        exact this)
      rw [show (((xl M r).toNat : Nat) : Int) + -1 = xl M r - 1 by omega] at this
      exact this
    · intro Y s hY hY0 s1 s2 s3 s4 s5 ihY hsub y y2 ys yA yD
      obtain ⟨c1, c2⟩ := (hAl.2 s).mp (hsub s s3)
      have y32 : y.1 232 2 = xn M := by rw [ys 232 (by decide)]; exact w5
      refine k_167_53 ⟨hY, ?_⟩
      rw [if_neg hY0, s2, y32, Int.tmod_eq_emod_of_nonneg b3, d2]
      refine ⟨⟨by omega, by omega⟩, ⟨by omega, by omega⟩, by omega, ⟨by omega, by omega⟩, ?_⟩
      have go : ∀ (c : Int), mnv (lkw M (Kl (Kv M u) H (H x p q)) L H r q 0 s) c → ∀ o : uS, o = wr y 270 (xl M r * 40 + s) c → K_167 (e + 6) 53 [.ref 231, iV r, iV t, iV p, iV (xl M r), lV (land Y (Y - 1)), .retAddr 0, .retAddr 0, .retAddr 0] [] o Q := fun c hc o eo => by
        have o70 : o.1 270 = uf (y.1 270) (xl M r * 40 + s) c := by rw [eo, wr_uf]
        refine ihY (fun i hi => ?_) o (by rw [eo, wr_2]; exact y2) (by rw [eo]; exact sb1_wr ys (by decide)) (by rw [eo, wr_ne (by omega)]; exact yA) (fun b hb1 hb2 => ?_)
        · rw [s5, Bool.and_eq_true] at hi
          exact hsub i hi.1
        · rw [o70]
          by_cases eb : b = s
          · rw [eb, uf_eq]
            exact hc
          · rw [uf_ne (by omega)]
            refine yD b hb1 ?_
            rw [s5] at hb2
            simpa [eb] using hb2
      by_cases es : (s : Int) = q
      · rw [if_pos es]
        refine ⟨by omega, by omega, go 0 ⟨fun c ⟨g, h1⟩ => by have := h1.2.1; omega, Or.inr ⟨0, ⟨0, es, rfl, rfl⟩, rfl⟩⟩⟩
      · rw [if_neg es]
        exact ⟨by omega, by omega, go _ ⟨fun c ⟨g, h1⟩ => absurd h1.1 es, Or.inl ⟨rfl, fun c ⟨g, h1⟩ => es h1.1⟩⟩⟩
  exact last _ hAl.1 (fun i hi => hi) z z2 z1' rfl (fun b hb1 hb2 => by rw [hb1] at hb2; cases hb2)
