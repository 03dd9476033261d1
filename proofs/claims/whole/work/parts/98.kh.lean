/-! The witness: hold -/
theorem q_43w {d : Nat} {M : Mg} {u : uS} (hM : Mok M) (h0 : u.1 6 0 = xv M) (h1 : u.1 6 1 = xr M) (h8 : u.1 8 = xh M) (h9 : u.1 9 = xl M) (h10 : ∀ r k : Int, u.1 10 (r * 6 + k) = xy M r k) : cV (d + 1) 43 [.ref 255, .ref 6] u (fun w => sb1 u w [255, 256, 257, 258, 259] ∧ w.2 = u.2 ∧ w.1 255 1 = xr M ∧ ∀ r : Int, 0 ≤ r → r < xr M → w.1 257 r = xh M r ∧ w.1 258 r = xl M r ∧ ∀ k : Int, 0 ≤ k → k < xl M r → w.1 259 (r * 6 + k) = xy M r k) := by
  obtain ⟨m1, m2, m3, m4, m5, m6⟩ := id hM
  refine e_43 sx_255 sx_6 (fun u1 e1 u3 e3 => ?_)
  rw [h0] at e1
  have k1 : u1.1 6 1 = xr M := by rw [e1, wr_ne (by decide)]; exact h1
  rw [k1] at e3
  have k60 : u3.1 255 0 = xv M := by rw [e3, wr_1, if_neg (by decide), e1, wr_self]
  have k61 : u3.1 255 1 = xr M := by rw [e3, wr_self]
  rw [k60]
  refine ⟨by omega, by omega, fun u7 e7 => ?_⟩
  have e7 : u7 = cpy u3 7 0 256 0 (xv M) := e7
  have k71 : u7.1 255 1 = xr M := by rw [e7, cpy_ne (by decide)]; exact k61
  rw [k71]
  refine ⟨by omega, by omega, fun u11 e11 => ?_⟩
  have e11 : u11 = cpy u7 8 0 257 0 (xr M) := e11
  have k111 : u11.1 255 1 = xr M := by rw [e11, cpy_ne (by decide)]; exact k71
  rw [k111]
  refine ⟨by omega, by omega, fun u15 e15 => ?_⟩
  have e15 : u15 = cpy u11 9 0 258 0 (xr M) := e15
  have k151 : u15.1 255 1 = xr M := by rw [e15, cpy_ne (by decide)]; exact k111
  rw [k151]
  refine ⟨by omega, by omega, fun u19 e19 => ?_⟩
  have e19 : u19 = cpy u15 10 0 259 0 ((xr M : Int) * 6) := e19
  have kb : ∀ b, b ≠ 255 → b ≠ 256 → b ≠ 257 → b ≠ 258 → b ≠ 259 → u19.1 b = u.1 b := fun b b1 b2 b3 b4 b5 => by rw [e19, cpy_ne b5, e15, cpy_ne b4, e11, cpy_ne b3, e7, cpy_ne b2, e3, wr_ne b1, e1, wr_ne b1]
  have cp : ∀ (w : uS) (p q : Nat) (m i : Int), 0 ≤ i → i < m → (cpy w p 0 q 0 m).1 q i = w.1 p i := fun w p q m i i0 i1 => by
    rw [cpy_1, if_pos ⟨rfl, by omega, by omega⟩, show (0 : Int) + (i - 0) = i by omega]
  refine ⟨fun b hb => ?_, ?_, ?_, fun r r0 r1 => ⟨?_, ?_, fun k k0 k1 => ?_⟩⟩
  · simp only [List.mem_cons, List.not_mem_nil, or_false, not_or] at hb
    exact kb b hb.1 hb.2.1 hb.2.2.1 hb.2.2.2.1 hb.2.2.2.2
  · rw [e19, e15, e11, e7, e3, e1]
    rfl
  · rw [e19, cpy_ne (by decide)]; exact k151
  · rw [e19, cpy_ne (by decide), e15, cpy_ne (by decide), e11, cp _ _ _ _ _ r0 r1, e7, cpy_ne (by decide), e3, wr_ne (by decide), e1, wr_ne (by decide), h8]
  · rw [e19, cpy_ne (by decide), e15, cp _ _ _ _ _ r0 r1, e11, cpy_ne (by decide), e7, cpy_ne (by decide), e3, wr_ne (by decide), e1, wr_ne (by decide), h9]
  · have := (m5 r r0 r1).2.2.1
    rw [e19, cp _ _ _ _ _ (by omega) (by omega), e15, cpy_ne (by decide), e11, cpy_ne (by decide), e7, cpy_ne (by decide), e3, wr_ne (by decide), e1, wr_ne (by decide), h10]
/-- what stays as it is while a witness is held -/
def HB (M : Mg) (mk : Nat) (L H : T3) (s : Nat) (b : Int) (y : uS) : Prop := sW M mk L H y ∧ OD M L H y s ∧ y.1 232 3 = b ∧ Kv M y 0 0 b ∧ ∀ k1 k2 k3 x o q, Kv M y k1 k2 k3 → Fe M L x o q → L x o q ≤ L k1 k2 k3 → H x o q < H k1 k2 k3 → Kv M y x o q
theorem HB_tr {M : Mg} {mk : Nat} {L H : T3} {s : Nat} {b : Int} {y v : uS} (hmk : mk = 59 ∨ mk = 61) (h : HB M mk L H s b y) (h2 : v.2 = y.2) (hs : sb1 y v fW) : HB M mk L H s b v := by
  obtain ⟨h1, h3, h4, h5, h6⟩ := h
  have eK : Kv M v = Kv M y := Kv_eq (hs _ (by decide))
  refine ⟨sW_tr hmk h1 h2 hs, ?_, by rw [hs 232 (by decide)]; exact h4, by rw [eK]; exact h5, by rw [eK]; exact h6⟩
  unfold OD at h3 ⊢
  rw [eK, hs 232 (by decide), hs 246 (by decide)]
  exact h3
theorem HB_cl {M : Mg} {mk : Nat} {L H : T3} {s : Nat} {b : Int} {y : uS} (h : HB M mk L H s b y) {x p q : Int} (hk : Kv M y x p q) : clK M L H (Kv M y) x p q := ⟨fun x o b hk => (h.1.2.2.2.2.2.2 x o b hk).1, fun x' o' b' hf hl hh => h.2.2.2.2 x p q x' o' b' hk hf hl hh⟩
def DN (M : Mg) (L H : T3) (s : Nat) (b : Int) (y : uS) (m : Nat) (v : uS) : Prop := v.2 = y.2 ∧ sb1 y v fW ∧ (∀ x o q, Kv M y x o q → v.1 268 (tcx (xn M) x o q) = 0 ∨ v.1 268 (tcx (xn M) x o q) = 1) ∧ v.1 268 b = 1 ∧ ∀ i : Int, (m : Int) ≤ i → i < s → ∀ x o q, Kv M y x o q → y.1 246 i = tcx (xn M) x o q → v.1 268 (tcx (xn M) x o q) = 1 → ∃ r S, CHc M L H v x o q r S ∧ ∀ k : Nat, k < (xl M r).toNat → ¬ xy M r k < 100 → v.1 268 (sbx M r S k) = 1
theorem h_down {e mk s : Nat} {M : Mg} {L H : T3} {b : Int} {y : uS} {Q : uS → Prop} (hmk : mk = 59 ∨ mk = 61) (hMO : isO mk 5) (hM : Mok M) (hS : LHs M L H) (hB : HB M mk L H s b y) (hc : ∀ v, DN M L H s b y 0 v → K_165 (e + 8) 117 [.ref 231, .retAddr 0, .retAddr 0, iV 0, .retAddr 0] [] v Q) : ∀ (m : Nat) (v : uS), m ≤ s → DN M L H s b y m v → K_165 (e + 8) 70 [.ref 231, .retAddr 0, .retAddr 0, iV ((m : Int) + (-1)), .retAddr 0] [] v Q := by
  obtain ⟨m1, m2, m3, m4, m5, m6⟩ := id hM
  obtain ⟨nb1, nb2, nb3, nb4⟩ := nn_b m1 m4
  have hs16 : s ≤ 16000 := by
    rw [hB.2.1.2.1]
    exact ct_le _ _
  intro m
  induction m with
  | zero =>
    intro v hm hD
    refine k_165_70 ⟨⟨by omega, by omega⟩, ?_⟩
    rw [if_pos (by omega)]
    exact hc v hD
  | succ m ih =>
    intro v hm hD
    obtain ⟨d1, d2, d3, d4, d5⟩ := id hD
    have hBv := HB_tr hmk hB d1 d2
    obtain ⟨x, o, q, hk, hi⟩ := hB.2.1.2.2.1 m (by omega) (by omega)
    obtain ⟨b1, b2, b3, b4⟩ := tcx_b hk.1 hk.2.1 hk.2.2.1
    have e46 : v.1 246 m = tcx (xn M) x o q := by rw [d2 246 (by decide)]; exact hi
    rw [show (((m + 1 : Nat) : Int) + -1) = (m : Int) by omega]
    refine k_165_70 ⟨⟨by omega, by omega⟩, ?_⟩
    rw [if_neg (by omega), e46]
    have h01 := d3 x o q hk
    refine ⟨by omega, b3, by omega, ⟨by omega, by omega⟩, ?_⟩
    by_cases c0 : v.1 268 (tcx (xn M) x o q) = 0
    · rw [if_pos c0]
      refine ih v (by omega) ⟨d1, d2, d3, d4, fun i i0 i1 x' o' q' hk' hi' h1 => ?_⟩
      by_cases ei : i = m
      · rw [ei, hi] at hi'
        rw [← hi', c0] at h1
        omega
      · exact d5 i (by omega) i1 x' o' q' hk' hi' h1
    · rw [if_neg c0]
      have eKv : Kv M v = Kv M y := Kv_eq (d2 _ (by decide))
      have hfe := (hB.1.2.2.2.2.2.2 x o q hk).1
      refine cV.mono (q_166 (e := e) hmk hMO hM hS hBv.1 (by rw [eKv]; exact hk) (by rw [eKv]; exact HB_cl hB hk)) (Nat.le_refl _) (fun z ⟨z2, zs, zt, r, S, zc⟩ => ?_)
      have hWz : sW M mk L H z := sW_tr hmk hBv.1 z2 (sb1_sub zs (by decide))
      refine cV.mono (q_171 (e := e + 3) hmk hM hS hWz hfe zc) (Nat.le_refl _) (fun w ⟨w2, ws, wk, wt⟩ => ?_)
      have w66 : w.1 266 = z.1 266 := ws _ (by decide)
      have w67 : w.1 267 = z.1 267 := ws _ (by decide)
      have z68 : z.1 268 = v.1 268 := zs _ (by decide)
      refine ih w (by omega) ⟨w2.trans (z2.trans d1), fun c hc => (ws c (fun hh => hc (by simp only [fW, List.mem_cons, List.not_mem_nil, or_false] at hh ⊢; omega))).trans ((zs c (fun hh => hc (by simp only [fW, List.mem_cons, List.not_mem_nil, or_false] at hh ⊢; omega))).trans (d2 c hc)), fun x' o' q' hk' => ?_, ?_, fun i i0 i1 x' o' q' hk' hi' h1 => ?_⟩
      · rcases wt (tcx (xn M) x' o' q') with h | ⟨h, -⟩
        · rw [h, z68]; exact d3 x' o' q' hk'
        · exact Or.inr h
      · rcases wt b with h | ⟨h, -⟩
        · rw [h, z68]; exact d4
        · exact h
      · by_cases ei : i = m
        · rw [ei, hi] at hi'
          obtain ⟨t1, t2, t3⟩ := tcx_i hk.2.1 hk.2.2.1 hk'.2.1 hk'.2.2.1 hi'
          rw [← t1, ← t2, ← t3]
          refine ⟨r, S, ?_, wk⟩
          unfold CHc at zc ⊢
          rw [w66, w67]
          exact zc
        · have hne : tcx (xn M) x' o' q' ≠ tcx (xn M) x o q := fun h => by
            rw [← hi', ← hi] at h
            exact OD_inj hB.2.1 (i := (m : Int)) (j := i) (by omega) (by omega) i1 h.symm
          rcases wt (tcx (xn M) x' o' q') with h | ⟨-, k, hk1, hk2, hk3⟩
          · rw [h, z68] at h1
            obtain ⟨r', S', g1, g2⟩ := d5 i (by omega) i1 x' o' q' hk' hi' h1
            refine ⟨r', S', ?_, fun k hk1 hk2 => ?_⟩
            · unfold CHc at g1 ⊢
              rw [w66, w67, (zt _ hne).1, (zt _ hne).2]
              exact g1
            · rcases wt (sbx M r' S' k) with h' | ⟨h', -⟩
              · rw [h', z68]; exact g2 k hk1 hk2
              · exact h'
          · exfalso
            obtain ⟨f1, f2, f3⟩ := CH_sub hS hfe zc.2.1 hk1 hk2
            have fk := hB.2.2.2.2 x o q _ _ _ hk f1 f2 f3
            obtain ⟨j, j0, j1, j2⟩ := hB.2.1.2.2.2.2 m x o q _ _ _ (by omega) (by omega) hk hi fk f2 f3
            have : y.1 246 j = y.1 246 i := by rw [j2, hi', hk3]
            exact OD_inj hB.2.1 (i := j) (j := i) j0 (by omega) i1 this
def UP (M : Mg) (L H : T3) (s : Nat) (y v : uS) (m : Nat) (z : uS) : Prop := z.2 = v.2 ∧ sb1 v z [268] ∧ ∀ i : Int, 0 ≤ i → i < s → ∀ x o q, Kv M y x o q → y.1 246 i = tcx (xn M) x o q → ((m : Int) ≤ i → z.1 268 (tcx (xn M) x o q) = v.1 268 (tcx (xn M) x o q)) ∧ (i < m → v.1 268 (tcx (xn M) x o q) = 1 → ∃ r S, CHc M L H v x o q r S ∧ (∀ k : Nat, k < (xl M r).toNat → ¬ xy M r k < 100 → v.1 268 (sbx M r S k) = 1) ∧ z.1 268 (tcx (xn M) x o q) = nsz M (z.1 268) r S (xl M r).toNat ∧ 1 ≤ z.1 268 (tcx (xn M) x o q) ∧ z.1 268 (tcx (xn M) x o q) ≤ 4000000000000000000)
theorem h_up {e mk s : Nat} {M : Mg} {L H : T3} {b : Int} {y v : uS} {Q : uS → Prop} (hmk : mk = 59 ∨ mk = 61) (hM : Mok M) (hS : LHs M L H) (hB : HB M mk L H s b y) (hD : DN M L H s b y 0 v) (hc : ∀ z, UP M L H s y v s z → Q (wr z 231 0 1)) : ∀ (n m : Nat) (z : uS), m + n = s → UP M L H s y v m z → K_165 (e + 8) 117 [.ref 231, .retAddr 0, .retAddr 0, iV (m : Int), .retAddr 0] [] z Q := by
  obtain ⟨m1, m2, m3, m4, m5, m6⟩ := id hM
  obtain ⟨nb1, nb2, nb3, nb4⟩ := nn_b m1 m4
  obtain ⟨d1, d2, d3, d4, d5⟩ := id hD
  have hs16 : s ≤ 16000 := by
    rw [hB.2.1.2.1]
    exact ct_le _ _
  intro n
  induction n with
  | zero =>
    intro m z hm hU
    have hsz : z.1 232 7 = s := by rw [hU.2.1 232 (by decide), d2 232 (by decide)]; exact hB.2.1.1
    refine k_165_117 ⟨⟨by omega, by omega⟩, ?_⟩
    rw [hsz]
    refine ⟨⟨by omega, by omega⟩, ?_⟩
    rw [if_neg (by omega)]
    intro w ew
    rw [ew]
    rw [show m = s by omega] at hU
    exact hc z hU
  | succ n ih =>
    intro m z hm hU
    obtain ⟨u1, u2, u3⟩ := id hU
    have zs : sb1 y z fW := fun c hc => (u2 c (fun hh => hc (by simp only [fW, List.mem_cons, List.not_mem_nil, or_false] at hh ⊢; omega))).trans (d2 c hc)
    have hBz := HB_tr hmk hB (u1.trans d1) zs
    obtain ⟨x, o, q, hk, hi⟩ := hB.2.1.2.2.1 m (by omega) (by omega)
    obtain ⟨b1, b2, b3, b4⟩ := tcx_b hk.1 hk.2.1 hk.2.2.1
    have e46 : z.1 246 m = tcx (xn M) x o q := by rw [zs 246 (by decide)]; exact hi
    have hsz : z.1 232 7 = s := by rw [zs 232 (by decide)]; exact hB.2.1.1
    have ez := (u3 m (by omega) (by omega) x o q hk hi).1 (Int.le_refl _)
    have h01 := d3 x o q hk
    have ecast : ((m + 1 : Nat) : Int) = (m : Int) + 1 := by omega
    refine k_165_117 ⟨⟨by omega, by omega⟩, ?_⟩
    rw [hsz, e46, ez]
    refine ⟨⟨by omega, by omega⟩, ?_⟩
    rw [if_pos (by omega)]
    refine ⟨by omega, by omega, b3, by omega, ⟨by omega, by omega⟩, ?_⟩
    by_cases c0 : v.1 268 (tcx (xn M) x o q) = 0
    · rw [if_pos c0, ← ecast]
      refine ih (m + 1) z (by omega) ⟨u1, u2, fun i i0 i1 x' o' q' hk' hi' => ⟨fun him => (u3 i i0 i1 x' o' q' hk' hi').1 (by omega), fun him h1 => ?_⟩⟩
      by_cases ei : i = m
      · rw [ei, hi] at hi'
        rw [← hi', c0] at h1
        omega
      · exact (u3 i i0 i1 x' o' q' hk' hi').2 (by omega) h1
    · rw [if_neg c0]
      have hfe := (hB.1.2.2.2.2.2.2 x o q hk).1
      obtain ⟨r, S, g1, g2⟩ := d5 m (by omega) (by omega) x o q hk hi (by omega)
      have gz : CHc M L H z x o q r S := by
        unfold CHc at g1 ⊢
        rw [u2 266 (by decide), u2 267 (by decide)]
        exact g1
      -- its parts lie before it
      have part : ∀ (i x' o' q' : Int), Kv M y x' o' q' → 0 ≤ i → i < s → y.1 246 i = tcx (xn M) x' o' q' → ∀ (r' : Int) (S' : Nat → Int), CHc M L H v x' o' q' r' S' → ∀ k : Nat, k < (xl M r').toNat → ¬ xy M r' k < 100 → ∃ j : Int, 0 ≤ j ∧ j < i ∧ Kv M y (xy M r' k - 100) (S' k) (S' (k + 1)) ∧ y.1 246 j = sbx M r' S' k := fun i x' o' q' hk' i0 i1 hi' r' S' hc' k hk1 hk2 => by
        obtain ⟨f1, f2, f3⟩ := CH_sub hS (hB.1.2.2.2.2.2.2 x' o' q' hk').1 hc'.2.1 hk1 hk2
        have fk := hB.2.2.2.2 x' o' q' _ _ _ hk' f1 f2 f3
        obtain ⟨j, j0, j1, j2⟩ := hB.2.1.2.2.2.2 i x' o' q' _ _ _ i0 i1 hk' hi' fk f2 f3
        exact ⟨j, j0, j1, fk, j2⟩
      have hN : ∀ k : Nat, k < (xl M r).toNat → ¬ xy M r k < 100 → cB (z.1 268 (sbx M r S k)) := fun k hk1 hk2 => by
        obtain ⟨j, j0, j1, jk, j2⟩ := part m x o q hk (by omega) (by omega) hi r S g1 k hk1 hk2
        obtain ⟨-, -, -, -, -, y1, y2⟩ := (u3 j j0 (by omega) _ _ _ jk j2).2 j1 (g2 k hk1 hk2)
        exact ⟨by show 0 ≤ z.1 268 (sbx M r S k); have : 1 ≤ z.1 268 (sbx M r S k) := y1; omega, y2⟩
      refine cL.mono (q_174 (e := e + 3) hM hS hBz.1 hfe gz hN) (Nat.le_refl _) (fun c w ⟨ew, ec⟩ => ?_)
      rw [ew, ec, ← ecast]
      intro a ea
      have a68 : a.1 268 = uf (z.1 268) (tcx (xn M) x o q) (nsz M (z.1 268) r S (xl M r).toNat) := by rw [ea, wr_uf]
      -- the parts of what was counted are not touched
      have keep : ∀ (i x' o' q' : Int), Kv M y x' o' q' → 0 ≤ i → i ≤ m → y.1 246 i = tcx (xn M) x' o' q' → ∀ (r' : Int) (S' : Nat → Int), CHc M L H v x' o' q' r' S' → nsz M (a.1 268) r' S' (xl M r').toNat = nsz M (z.1 268) r' S' (xl M r').toNat := fun i x' o' q' hk' i0 i1 hi' r' S' hc' => by
        refine nsz_congr _ (fun k hk1 hk2 => ?_)
        obtain ⟨j, j0, j1, jk, j2⟩ := part i x' o' q' hk' i0 (by omega) hi' r' S' hc' k hk1 hk2
        rw [a68, uf_ne]
        intro he
        rw [← j2, ← hi] at he
        exact OD_inj hB.2.1 (i := j) (j := (m : Int)) j0 (by omega) (by omega) he
      refine ih (m + 1) a (by omega) ⟨by rw [ea, wr_2]; exact u1, by rw [ea]; exact sb1_wr u2 (by decide), fun i i0 i1 x' o' q' hk' hi' => ⟨fun him => ?_, fun him h1 => ?_⟩⟩
      · rw [a68, uf_ne]
        · exact (u3 i i0 i1 x' o' q' hk' hi').1 (by omega)
        · intro he
          rw [← hi', ← hi] at he
          exact OD_inj hB.2.1 (i := (m : Int)) (j := i) (by omega) (by omega) i1 he.symm
      · by_cases ei : i = m
        · have hi2 := hi'
          rw [ei, hi] at hi2
          obtain ⟨t1, t2, t3⟩ := tcx_i hk.2.1 hk.2.2.1 hk'.2.1 hk'.2.2.1 hi2
          rw [← t1, ← t2, ← t3]
          have hb := nsz_b (N := z.1 268) (S := S) (r := r) (M := M) (xl M r).toNat hN
          refine ⟨r, S, g1, g2, ?_, ?_⟩
          · rw [keep m x o q hk (by omega) (Int.le_refl _) hi r S g1, a68, uf_eq]
          · rw [a68, uf_eq]
            exact hb
        · obtain ⟨r', S', c1, c2, c3, c4, c5⟩ := (u3 i i0 i1 x' o' q' hk' hi').2 (by omega) h1
          have hne : tcx (xn M) x' o' q' ≠ tcx (xn M) x o q := fun he => by
            rw [← hi', ← hi] at he
            exact OD_inj hB.2.1 (i := i) (j := (m : Int)) i0 (by omega) (by omega) he
          have ev : a.1 268 (tcx (xn M) x' o' q') = z.1 268 (tcx (xn M) x' o' q') := by rw [a68, uf_ne hne]
          refine ⟨r', S', c1, c2, ?_, ?_⟩
          · rw [ev, keep i x' o' q' hk' i0 (by omega) hi' r' S' c1]
            exact c3
          · rw [ev]
            exact ⟨c4, c5⟩
