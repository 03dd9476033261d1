/-! letter: both sides alike -/
def WT (M : Mg) (L H : T3) (s : Nat) (T : P3) (u : uS) : Prop := sV M L H u ∧ OD M L H u s ∧ (∀ r : Int, 0 ≤ r → r < xr M → u.1 337 r = xl M r ∧ ∀ k : Int, 0 ≤ k → k < xl M r → u.1 338 (6 * r + k) = xy M r k) ∧ ∀ x p q, T x p q → Kv M u x p q ∧ ∃ r S, CHc M L H u x p q r S ∧ CHr M L H u x p q r S ∧ (∀ k : Nat, k < (xl M r).toNat → ¬ xy M r k < 100 → T (xy M r k - 100) (S k) (S (k + 1))) ∧ u.1 268 (tcx (xn M) x p q) = u.1 333 (tix p x q) ∧ u.1 268 (tcx (xn M) x p q) = nsz M (u.1 268) r S (xl M r).toNat ∧ 1 ≤ u.1 268 (tcx (xn M) x p q) ∧ u.1 268 (tcx (xn M) x p q) ≤ 4000000000000000000
theorem sV_tr {M : Mg} {L H : T3} {u v : uS} (h : ∀ c, c ≠ 231 → v.1 c = u.1 c) (hV : sV M L H u) : sV M L H v := by
  have eK : Kv M v = Kv M u := Kv_eq (h 247 (by decide))
  unfold sV rgt at hV ⊢
  rw [eK, h 255 (by decide), h 257 (by decide), h 258 (by decide), h 259 (by decide), h 232 (by decide), h 247 (by decide), h 244 (by decide), h 245 (by decide)]
  exact hV
theorem OD_tr {M : Mg} {L H : T3} {s : Nat} {u v : uS} (h : ∀ c, c ≠ 231 → v.1 c = u.1 c) (hV : OD M L H u s) : OD M L H v s := by
  have eK : Kv M v = Kv M u := Kv_eq (h 247 (by decide))
  unfold OD at hV ⊢
  rw [eK, h 232 (by decide), h 246 (by decide)]
  exact hV
theorem CHc_tr {M : Mg} {L H : T3} {x p q r : Int} {S : Nat → Int} {u v : uS} (h : ∀ c, c ≠ 231 → v.1 c = u.1 c) (hV : CHc M L H u x p q r S) : CHc M L H v x p q r S := by
  unfold CHc at hV ⊢
  rw [h 266 (by decide), h 267 (by decide)]
  exact hV
theorem WX_tr {u v : uS} (h : ∀ c, c ≠ 231 → v.1 c = u.1 c) (hX : WX u) : WX v := by
  obtain ⟨M, L, H, s, b, hM, hS, hV, hO, hb, hk, h74, h75, hr, T, hT0, hT⟩ := hX
  have eK : Kv M v = Kv M u := Kv_eq (h 247 (by decide))
  refine ⟨M, L, H, s, b, hM, hS, sV_tr h hV, OD_tr h hO, by rw [h 232 (by decide)]; exact hb, by rw [eK]; exact hk, by rw [h 271 (by decide)]; exact h74, by rw [h 271 (by decide)]; exact h75, by rw [h 337 (by decide), h 338 (by decide)]; exact hr, T, hT0, ?_⟩
  unfold CHc CHr at hT ⊢
  rw [eK, h 266 (by decide), h 267 (by decide), h 331 (by decide), h 332 (by decide), h 334 (by decide), h 335 (by decide), h 268 (by decide), h 333 (by decide)]
  exact hT
theorem invX_tr {u v : uS} (h : ∀ c, c ≠ 231 → v.1 c = u.1 c) (h0 : v.1 231 0 = u.1 231 0) (hX : invX u) : invX v := by
  obtain ⟨h1, h2⟩ := hX
  refine ⟨by rw [h 333 (by decide)]; exact h1, ?_⟩
  rw [h0, h 271 (by decide)]
  rcases h2 with z | ⟨z1, z2, z3⟩
  · exact Or.inl z
  · exact Or.inr ⟨z1, z2, WX_tr h z3⟩
/-- only fields of the held witness differ -/
def F231 (u v : uS) (P : Int → Prop) : Prop := v.2 = u.2 ∧ (∀ c, c ≠ 231 → v.1 c = u.1 c) ∧ ∀ j : Int, ¬ P j → v.1 231 j = u.1 231 j
theorem F231_wr {u v : uS} {P : Int → Prop} {j x : Int} (h : F231 u v P) (hj : P j) : F231 u (wr v 231 j x) P := ⟨by rw [wr_2]; exact h.1, fun c hc => by rw [wr_ne hc]; exact h.2.1 c hc, fun i hi => by rw [wr_1, if_neg (fun hh => hi (by rw [hh.2]; exact hj))]; exact h.2.2 i hi⟩
theorem psm_ex {M : Mg} {L H : T3} {x p q r i : Int} {S : Nat → Int} (h : CH M L H x p q r S) (i0 : 0 ≤ i) (i1 : i < L x p q) : ∃ k : Nat, k < (xl M r).toNat ∧ psm M L r S k ≤ i ∧ i < psm M L r S (k + 1) := by
  have hL := psm_L h
  have main : ∀ m : Nat, i < psm M L r S m → ∃ k : Nat, k < m ∧ psm M L r S k ≤ i ∧ i < psm M L r S (k + 1) := by
    intro m
    induction m with
    | zero => intro hm; have : psm M L r S 0 = 0 := rfl; omega
    | succ m ih =>
      intro hm
      by_cases c : i < psm M L r S m
      · obtain ⟨k, k1, k2, k3⟩ := ih c
        exact ⟨k, by omega, k2, k3⟩
      · exact ⟨m, by omega, by omega, hm⟩
  exact main _ (by omega)
theorem q_182 {e : Nat} {M : Mg} {L H : T3} {u : uS} {x p q r i : Int} {S : Nat → Int} {j : Nat} (hM : Mok M) (hS : LHs M L H) (hV : sV M L H u) (hx : Fe M L x p q) (hc : CHc M L H u x p q r S) (hp : ∀ k : Nat, k < (xl M r).toNat → ¬ xy M r k < 100 → Kv M u (xy M r k - 100) (S k) (S (k + 1))) (hj : j < (xl M r).toNat) (j1 : psm M L r S j ≤ i) (j2 : i < psm M L r S (j + 1)) (hi : cB i) (h9 : u.1 231 9 = i) : cI (e + 5) 182 [.ref 231, iV (tcx (xn M) x p q)] u (fun c w => c = (j : Int) ∧ F231 u w (fun j => j = 9) ∧ w.1 231 9 = i - psm M L r S j) := by
  obtain ⟨m1, m2, m3, m4, m5, m6⟩ := id hM
  obtain ⟨nb1, nb2, nb3, nb4⟩ := nn_b m1 m4
  obtain ⟨hr, hch, hpk⟩ := id hc
  obtain ⟨r0, r1, rx, -⟩ := id hch
  obtain ⟨l1, l2, l3, l4⟩ := m5 r r0 r1
  obtain ⟨b1, b2, b3, b4⟩ := tcx_b hx.1 hx.2.1 hx.2.2.1
  unfold cB at hi
  generalize hQQ : (fun (c : Int) (w : uS) => c = (j : Int) ∧ F231 u w (fun j => j = 9) ∧ w.1 231 9 = i - psm M L r S j) = Q
  have loop : ∀ (k' k : Nat) (w : uS), k + k' = j → F231 u w (fun j => j = 9) → w.1 231 9 = i - psm M L r S k → K_182 (e + 4) 9 [.ref 231, iV (tcx (xn M) x p q), iV r, iV (k : Int), .retAddr 0, .retAddr 0] [] w Q := by
    intro k'
    induction k' with
    | zero =>
      intro k w hk wF w9
      have ek : k = j := by omega
      have hVw := sV_tr wF.2.1 hV
      obtain ⟨a1, a2, a3⟩ := hVw.2.1 r r0 r1
      have hsy := l4 k (by omega) (by omega)
      have hm0 := psm_mono hS hx hch 0 k (by omega) (by omega)
      have hm00 : psm M L r S 0 = 0 := rfl
      have hjl : psm M L r S (j + 1) = psm M L r S j + lnk M L r S j := rfl
      have fin : Q (k : Int) w := by
        rw [← hQQ, ek]
        exact ⟨rfl, wF, by rw [w9, ek]⟩
      refine k_182_9 ⟨r0, by omega, ⟨by omega, by omega⟩, ?_⟩
      rw [a2, a3 k (by omega) (by omega)]
      refine ⟨⟨by omega, by omega⟩, ?_⟩
      rw [if_pos (by omega)]
      refine ⟨by omega, by omega, ?_, ?_⟩
      · rcases hsy with z | z <;> exact ⟨by omega, by omega⟩
      rw [ek] at hm0 w9
      by_cases cx : xy M r k < 100
      · rw [if_pos cx, w9]
        have : lnk M L r S j = 1 := by unfold lnk; rw [← ek, if_pos cx]
        refine ⟨⟨by omega, by omega⟩, ?_⟩
        rw [if_pos (by omega)]
        exact fin
      · rw [if_neg cx]
        refine cI.mono (q_172v (e := e + 1) (k := k) hM hS hVw hx (CHc_tr wF.2.1 hc) (by omega)) (Nat.le_refl _) (fun c z ⟨ez, ec⟩ => ?_)
        obtain ⟨sb0, sb1'⟩ := sbx_b hM hS hx hch (k := k) (by omega) cx
        have hkk := hp k (by omega) cx
        obtain ⟨kf, k44, k45⟩ := hV.2.2.2.2 _ _ _ hkk
        have kfb := (Fe_b hS kf).1
        unfold cB at kfb
        have e44 : w.1 244 (sbx M r S k) = L (xy M r k - 100) (S k) (S (k + 1)) := by rw [wF.2.1 244 (by decide)]; exact k44
        have : lnk M L r S j = L (xy M r k - 100) (S k) (S (k + 1)) := by unfold lnk; rw [← ek, if_neg cx]
        rw [ez, ec, e44, w9]
        refine ⟨sb0, sb1', ⟨by omega, by omega⟩, ⟨by omega, by omega⟩, ?_⟩
        rw [if_pos (by omega)]
        exact fin
    | succ k' ih =>
      intro k w hk wF w9
      have hVw := sV_tr wF.2.1 hV
      obtain ⟨a1, a2, a3⟩ := hVw.2.1 r r0 r1
      have hsy := l4 k (by omega) (by omega)
      have hm0 := psm_mono hS hx hch 0 k (by omega) (by omega)
      have hm1 := psm_mono hS hx hch (k + 1) j (by omega) (by omega)
      have hm00 : psm M L r S 0 = 0 := rfl
      have hjl : psm M L r S (k + 1) = psm M L r S k + lnk M L r S k := rfl
      have ecast : ((k + 1 : Nat) : Int) = (k : Int) + 1 := by omega
      refine k_182_9 ⟨r0, by omega, ⟨by omega, by omega⟩, ?_⟩
      rw [a2, a3 k (by omega) (by omega)]
      refine ⟨⟨by omega, by omega⟩, ?_⟩
      rw [if_pos (by omega)]
      refine ⟨by omega, by omega, ?_, ?_⟩
      · rcases hsy with z | z <;> exact ⟨by omega, by omega⟩
      by_cases cx : xy M r k < 100
      · have hl : lnk M L r S k = 1 := by unfold lnk; rw [if_pos cx]
        rw [if_pos cx, w9]
        refine ⟨⟨by omega, by omega⟩, ?_⟩
        rw [if_neg (by omega)]
        intro y ey
        rw [← ecast]
        exact ih (k + 1) y (by omega) (by rw [ey]; exact F231_wr wF rfl) (by rw [ey, wr_self, hjl, hl]; omega)
      · rw [if_neg cx]
        refine cI.mono (q_172v (e := e + 1) (k := k) hM hS hVw hx (CHc_tr wF.2.1 hc) (by omega)) (Nat.le_refl _) (fun c z ⟨ez, ec⟩ => ?_)
        obtain ⟨sb0, sb1'⟩ := sbx_b hM hS hx hch (k := k) (by omega) cx
        have hkk := hp k (by omega) cx
        obtain ⟨kf, k44, k45⟩ := hV.2.2.2.2 _ _ _ hkk
        have kfb := (Fe_b hS kf).1
        unfold cB at kfb
        have e44 : w.1 244 (sbx M r S k) = L (xy M r k - 100) (S k) (S (k + 1)) := by rw [wF.2.1 244 (by decide)]; exact k44
        have hl : lnk M L r S k = L (xy M r k - 100) (S k) (S (k + 1)) := by unfold lnk; rw [if_neg cx]
        rw [ez, ec, e44, w9]
        refine ⟨sb0, sb1', ⟨by omega, by omega⟩, ⟨by omega, by omega⟩, ?_⟩
        rw [if_neg (by omega)]
        intro y ey
        rw [← ecast]
        exact ih (k + 1) y (by omega) (by rw [ey]; exact F231_wr wF rfl) (by rw [ey, wr_self, hjl, hl]; omega)
  refine e_182 ⟨b3, by omega, ?_⟩
  rw [hr]
  exact loop j 0 u (by omega) ⟨rfl, fun _ _ => rfl, fun _ _ => rfl⟩ (by rw [h9]; show i = i - 0; omega)
theorem q_181l {e s : Nat} {M : Mg} {L H : T3} {T : P3} {u : uS} (hM : Mok M) (hS : LHs M L H) (hW : WT M L H s T u) : ∀ (m : Nat) (x p q i idx lv : Int) (w : uS) (Q : Int → uS → Prop), T x p q → 0 ≤ idx → idx ≤ m → u.1 246 idx = tcx (xn M) x p q → 0 ≤ lv → lv + idx < s → F231 u w (fun j => j = 9) → w.1 231 9 = i → 0 ≤ i → i < L x p q → (∀ (h : Nat) (a : Int) (z : uS), LA M L H h x p q i a → F231 u z (fun j => j = 9) → Q a z) → K_181 (e + 5) 34 [.ref 231, .retAddr 0, .retAddr 0, iV (tcx (xn M) x p q), iV lv, .retAddr 0, .retAddr 0] [] w Q := by
  obtain ⟨hV, hO, hrow, hT⟩ := hW
  obtain ⟨m1, m2, m3, m4, m5, m6⟩ := id hM
  obtain ⟨nb1, nb2, nb3, nb4⟩ := nn_b m1 m4
  have hs16 : s ≤ 16000 := by
    rw [hO.2.1]
    exact ct_le _ _
  intro m
  induction m with
  | zero =>
    intro x p q i idx lv w Q hTx i0 i1 hidx lv0 lv1 wF w9 hi0 hi1 hQ
    obtain ⟨hk, r, S, c1, c2, c3, -⟩ := hT x p q hTx
    have hfe := (hV.2.2.2.2 x p q hk).1
    have hLb := (Fe_b hS hfe).1
    unfold cB at hLb
    have hch := c1.2.1
    obtain ⟨r0, r1, rx, -⟩ := id hch
    obtain ⟨l1, l2, l3, l4⟩ := m5 r r0 r1
    obtain ⟨j, j1, j2, j3⟩ := psm_ex hch hi0 hi1
    have hsy := l4 j (by omega) (by omega)
    have hVw := sV_tr wF.2.1 hV
    have hOw := OD_tr wF.2.1 hO
    obtain ⟨b1, b2, b3, b4⟩ := tcx_b hk.1 hk.2.1 hk.2.2.1
    refine k_181_34 ⟨⟨by omega, by omega⟩, ?_⟩
    rw [hOw.1]
    refine ⟨⟨by omega, by omega⟩, ?_⟩
    rw [if_pos (by omega)]
    refine cI.mono (q_182 (e := e) hM hS hVw hfe (CHc_tr wF.2.1 c1) (fun k k1 k2 => by rw [Kv_eq (wF.2.1 247 (by decide))]; exact (hT _ _ _ (c3 k k1 k2)).1) j1 j2 j3 ⟨hi0, by omega⟩ w9) (Nat.le_refl _) (fun c z ⟨ec, zF, z9⟩ => ?_)
    have zu : F231 u z (fun j => j = 9) := ⟨zF.1.trans wF.1, fun c hc => (zF.2.1 c hc).trans (wF.2.1 c hc), fun j hj => (zF.2.2 j hj).trans (wF.2.2 j hj)⟩
    have hVz := sV_tr zu.2.1 hV
    have e66 : z.1 266 (tcx (xn M) x p q) = r := by rw [zu.2.1 266 (by decide)]; exact c1.1
    rw [ec, e66, (hVz.2.1 r r0 r1).2.2 j (by omega) (by omega)]
    refine ⟨b3, by omega, by omega, by omega, ?_, ?_⟩
    · rcases hsy with z | z <;> exact ⟨by omega, by omega⟩
    by_cases cx : xy M r j < 100
    · rw [if_pos cx]
      exact hQ 1 _ z ⟨r, S, j, hch, j1, j2, j3, by rw [if_pos cx]⟩ zu
    · exfalso
      obtain ⟨f1, f2, f3⟩ := CH_sub hS hfe hch j1 cx
      have fk := (hT _ _ _ (c3 j j1 cx)).1
      obtain ⟨jj, jj0, jj1, -⟩ := hO.2.2.2.2 idx x p q _ _ _ i0 (by omega) hk hidx fk f2 f3
      omega
  | succ m ih =>
    intro x p q i idx lv w Q hTx i0 i1 hidx lv0 lv1 wF w9 hi0 hi1 hQ
    obtain ⟨hk, r, S, c1, c2, c3, -⟩ := hT x p q hTx
    have hfe := (hV.2.2.2.2 x p q hk).1
    have hLb := (Fe_b hS hfe).1
    unfold cB at hLb
    have hch := c1.2.1
    obtain ⟨r0, r1, rx, -⟩ := id hch
    obtain ⟨l1, l2, l3, l4⟩ := m5 r r0 r1
    obtain ⟨j, j1, j2, j3⟩ := psm_ex hch hi0 hi1
    have hsy := l4 j (by omega) (by omega)
    have hVw := sV_tr wF.2.1 hV
    have hOw := OD_tr wF.2.1 hO
    obtain ⟨b1, b2, b3, b4⟩ := tcx_b hk.1 hk.2.1 hk.2.2.1
    refine k_181_34 ⟨⟨by omega, by omega⟩, ?_⟩
    rw [hOw.1]
    refine ⟨⟨by omega, by omega⟩, ?_⟩
    rw [if_pos (by omega)]
    refine cI.mono (q_182 (e := e) hM hS hVw hfe (CHc_tr wF.2.1 c1) (fun k k1 k2 => by rw [Kv_eq (wF.2.1 247 (by decide))]; exact (hT _ _ _ (c3 k k1 k2)).1) j1 j2 j3 ⟨hi0, by omega⟩ w9) (Nat.le_refl _) (fun c z ⟨ec, zF, z9⟩ => ?_)
    have zu : F231 u z (fun j => j = 9) := ⟨zF.1.trans wF.1, fun c hc => (zF.2.1 c hc).trans (wF.2.1 c hc), fun j hj => (zF.2.2 j hj).trans (wF.2.2 j hj)⟩
    have hVz := sV_tr zu.2.1 hV
    have e66 : z.1 266 (tcx (xn M) x p q) = r := by rw [zu.2.1 266 (by decide)]; exact c1.1
    rw [ec, e66, (hVz.2.1 r r0 r1).2.2 j (by omega) (by omega)]
    refine ⟨b3, by omega, by omega, by omega, ?_, ?_⟩
    · rcases hsy with z | z <;> exact ⟨by omega, by omega⟩
    by_cases cx : xy M r j < 100
    · rw [if_pos cx]
      exact hQ 1 _ z ⟨r, S, j, hch, j1, j2, j3, by rw [if_pos cx]⟩ zu
    · rw [if_neg cx]
      refine cI.mono (q_172v (e := e + 2) (k := j) hM hS hVz hfe (CHc_tr zu.2.1 c1) j1) (Nat.le_refl _) (fun c' y ⟨ey, ec'⟩ => ?_)
      obtain ⟨f1, f2, f3⟩ := CH_sub hS hfe hch j1 cx
      have fk := (hT _ _ _ (c3 j j1 cx)).1
      obtain ⟨jj, jj0, jj1, jj2⟩ := hO.2.2.2.2 idx x p q _ _ _ i0 (by omega) hk hidx fk f2 f3
      have hjl : psm M L r S (j + 1) = psm M L r S j + lnk M L r S j := rfl
      have hl : lnk M L r S j = L (xy M r j - 100) (S j) (S (j + 1)) := by unfold lnk; rw [if_neg cx]
      rw [ey, ec']
      exact ih _ _ _ (i - psm M L r S j) jj (lv + 1) z Q (c3 j j1 cx) jj0 (by omega) jj2 (by omega) (by omega) zu z9 (by omega) (by omega) (fun h a z' hla hz' => hQ (h + 1) a z' ⟨r, S, j, hch, j1, j2, j3, by rw [if_neg cx]; exact hla⟩ hz')
