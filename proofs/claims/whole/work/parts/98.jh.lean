/-! The search: the great ones, height by height -/
def rgt (M : Mg) (L H : T3) (v : uS) : Prop := ∀ x o q, Kv M v x o q → Fe M L x o q ∧ v.1 244 (tcx (xn M) x o q) = L x o q ∧ v.1 245 (tcx (xn M) x o q) = H x o q
theorem wk_sub {M : Mg} {K : P3} {L H : T3} {r p : Int} : ∀ (k : Nat) (q c g : Int), wk M K L H r p k q c g → g ≤ 0 ∨ ∃ x o b, K x o b ∧ H x o b = g
  | 0, q, c, g, h => Or.inl (by rw [h.2.2]; exact Int.le_refl _)
  | k + 1, q, c, g, ⟨o, c', g', c1, g1, h1, h2, h3, h4, h5⟩ => by
    have ih := wk_sub k o c' g' h2
    unfold stk at h3
    by_cases e : xy M r k < 100
    · rw [if_pos e] at h3
      have e3 := h3.2.2
      rcases ih with z | ⟨x, o', b, z1, z2⟩
      · exact Or.inl (by omega)
      · by_cases h0 : 0 ≤ g'
        · exact Or.inr ⟨x, o', b, z1, by omega⟩
        · exact Or.inl (by omega)
    · rw [if_neg e] at h3
      have e3 := h3.2.2
      by_cases hle : g' ≤ g1
      · exact Or.inr ⟨_, _, _, h3.1, by clear ih; omega⟩
      · rcases ih with z | ⟨x, o', b, z1, z2⟩
        · exact Or.inl (by omega)
        · exact Or.inr ⟨x, o', b, z1, by omega⟩
theorem wk_hb {M : Mg} {K : P3} {L H : T3} {r p B : Int} (hB : 0 ≤ B) (hK : ∀ x o q, K x o q → H x o q ≤ B) (k : Nat) (q c g : Int) (h : wk M K L H r p k q c g) : g ≤ B := by
  rcases wk_sub k q c g h with z | ⟨x, o, b, z1, z2⟩
  · omega
  · have := hK x o b z1
    omega
theorem fol_wk {M : Mg} {K : P3} {L H : T3} {r p : Int} : ∀ (k : Nat) (q : Int), fol K (xd M) (xy M r) (xn M) p k q → ∃ c g, wk M K L H r p k q c g
  | 0, q, h => ⟨0, 0, h, rfl, rfl⟩
  | k + 1, q, ⟨o, ho, h1, h2⟩ => by
    obtain ⟨c, g, hw⟩ := fol_wk (L := L) (H := H) k o h1
    by_cases e : xy M r k < 100
    · rw [if_pos e] at h2
      refine ⟨c + 1, max g 0, o, c, g, 1, 0, ho, hw, ?_, rfl, rfl⟩
      unfold stk
      rw [if_pos e]
      exact ⟨h2.symm, rfl, rfl⟩
    · rw [if_neg e] at h2
      refine ⟨c + L (xy M r k - 100) o q, max g (H (xy M r k - 100) o q), o, c, g, L (xy M r k - 100) o q, H (xy M r k - 100) o q, ho, hw, ?_, rfl, rfl⟩
      unfold stk
      rw [if_neg e]
      exact ⟨h2, rfl, rfl⟩
theorem wk_fol {M : Mg} {K : P3} {L H : T3} {r p : Int} : ∀ (k : Nat) (q c g : Int), wk M K L H r p k q c g → fol K (xd M) (xy M r) (xn M) p k q
  | 0, q, c, g, h => h.1
  | k + 1, q, c, g, ⟨o, c', g', c1, g1, h1, h2, h3, h4, h5⟩ => by
    refine ⟨o, h1, wk_fol k o c' g' h2, ?_⟩
    unfold stk at h3
    by_cases e : xy M r k < 100
    · rw [if_pos e] at h3 ⊢; exact h3.1.symm
    · rw [if_neg e] at h3 ⊢; exact h3.1
/-- what holds within a level of height h -/
def GB (M : Mg) (mk : Nat) (L H : T3) (h : Int) (v : uS) (s : Nat) : Prop := sA v M mk ∧ okF (xv M) (xn M) (v.1 247) ∧ rgt M L H v ∧ OD M L H v s ∧ (∀ x o q, Kv M v x o q → L x o q < 4000000000000000000 ∨ L x o q = 4000000000000000000 ∧ H x o q ≤ h + 1) ∧ (∀ x o q, Fe M L x o q → L x o q < 4000000000000000000 ∨ H x o q ≤ h → Kv M v x o q) ∧ okF (xv M) (xn M) (v.1 253) ∧ ∀ x o q, Fg (xv M) (xn M) (v.1 253) x o q ↔ Kv M v x o q ∧ H x o q ≤ h
def fG : List Nat := [232, 244, 245, 246, 247, 253, 254]
theorem sA_tr {M : Mg} {mk : Nat} {v w : uS} (hmk : mk = 59 ∨ mk = 61) (h : sA v M mk) (h2 : w.2 = v.2) (hs : sb1 v w fG) (h32 : w.1 232 2 = v.1 232 2) : sA w M mk := sA_of h h2 (hs _ (by decide)) (hs _ (by decide)) (hs _ (by decide)) (hs _ (by decide)) (hs _ (by simp only [fG, List.mem_cons, List.not_mem_nil, or_false]; omega)) h32
theorem sA_tr' {M : Mg} {mk : Nat} {v w : uS} (hmk : mk = 59 ∨ mk = 61) (h : sA v M mk) (h2 : w.2 = v.2) (hs : sb1 v w fG) : w.1 6 = v.1 6 ∧ w.1 mk = v.1 mk := ⟨hs _ (by decide), hs _ (by simp only [fG, List.mem_cons, List.not_mem_nil, or_false]; omega)⟩
/-- frame of the great phase -/
def GF2 (v w : uS) : Prop := w.2 = v.2 ∧ sb1 v w fG ∧ w.1 232 2 = v.1 232 2 ∧ w.1 232 3 = v.1 232 3 ∧ w.1 232 11 = v.1 232 11
theorem GF2_tr {v w z : uS} (h : GF2 v w) (h' : GF2 w z) : GF2 v z := ⟨h'.1.trans h.1, sb1_trans h.2.1 h'.2.1, h'.2.2.1.trans h.2.2.1, h'.2.2.2.1.trans h.2.2.2.1, h'.2.2.2.2.trans h.2.2.2.2⟩
theorem GF2_refl (v : uS) : GF2 v v := ⟨rfl, sb1_refl _ _, rfl, rfl, rfl⟩
theorem q_163 {d mk : Nat} {M : Mg} {L H : T3} {v : uS} {s : Nat} {h : Int} (hmk : mk = 59 ∨ mk = 61) (hM : Mok M) (hS : LHs M L H) (hA : sA v M mk) (hr : rgt M L H v) (hO : OD M L H v s) (hs16 : s ≤ 16000) (h0 : 1 ≤ h) (h1 : h ≤ 16000) (hok : okF (xv M) (xn M) (v.1 253)) : cI (d + 2) 163 [.ref 232, iV h] v (fun c w => GF2 v w ∧ sb1 v w [253] ∧ okF (xv M) (xn M) (w.1 253) ∧ (∀ x o q, Fg (xv M) (xn M) (w.1 253) x o q ↔ Fg (xv M) (xn M) (v.1 253) x o q ∨ (Kv M v x o q ∧ H x o q = h)) ∧ ((c = 0 ∧ ∀ x o q, Kv M v x o q → H x o q ≠ h) ∨ c = 1)) := by
  obtain ⟨m1, m2, m3, m4, m5, m6⟩ := id hM
  obtain ⟨nb1, nb2, nb3, nb4⟩ := nn_b m1 m4
  obtain ⟨o1, o2, o3, o4, o5⟩ := id hO
  have s9 := hA.2.2.2.2.2.2.2.2
  generalize hQQ : (fun (c : Int) (w : uS) => GF2 v w ∧ sb1 v w [253] ∧ okF (xv M) (xn M) (w.1 253) ∧ (∀ x o q, Fg (xv M) (xn M) (w.1 253) x o q ↔ Fg (xv M) (xn M) (v.1 253) x o q ∨ (Kv M v x o q ∧ H x o q = h)) ∧ ((c = 0 ∧ ∀ x o q, Kv M v x o q → H x o q ≠ h) ∨ c = 1)) = Q
  have loop : ∀ (m : Nat) (i c : Int) (w : uS), 0 ≤ i → i + m = s → w.2 = v.2 → sb1 v w [253] → okF (xv M) (xn M) (w.1 253) → (∀ x o q, Fg (xv M) (xn M) (w.1 253) x o q ↔ Fg (xv M) (xn M) (v.1 253) x o q ∨ (Kv M v x o q ∧ H x o q = h ∧ ∃ j : Int, 0 ≤ j ∧ j < i ∧ v.1 246 j = tcx (xn M) x o q)) → ((c = 0 ∧ ∀ x o q, Kv M v x o q → (∃ j : Int, 0 ≤ j ∧ j < i ∧ v.1 246 j = tcx (xn M) x o q) → H x o q ≠ h) ∨ c = 1) → K_163 (d + 1) 4 [.ref 232, iV h, iV c, iV i, .retAddr 0] [] w Q := by
    intro m
    induction m with
    | zero =>
      intro i c w i0 ie w2 ws wok wF wc
      refine k_163_4 ⟨⟨by omega, by omega⟩, ?_⟩
      rw [ws 232 (by decide), o1]
      refine ⟨⟨by omega, by omega⟩, ?_⟩
      rw [if_neg (by omega), ← hQQ]
      have e32 : w.1 232 = v.1 232 := ws _ (by decide)
      refine ⟨by rcases wc with z | z <;> omega, ⟨w2, sb1_sub ws (by decide), by rw [e32], by rw [e32], by rw [e32]⟩, ws, wok, fun x o q => ?_, ?_⟩
      · rw [wF]
        constructor
        · rintro (z | ⟨z1, z2, -⟩)
          · exact Or.inl z
          · exact Or.inr ⟨z1, z2⟩
        · rintro (z | ⟨z1, z2⟩)
          · exact Or.inl z
          · obtain ⟨j, j0, j1, j2⟩ := o4 x o q z1
            exact Or.inr ⟨z1, z2, j, j0, by omega, j2⟩
      · rcases wc with ⟨z1, z2⟩ | z
        · refine Or.inl ⟨z1, fun x o q hk => ?_⟩
          obtain ⟨j, j0, j1, j2⟩ := o4 x o q hk
          exact z2 x o q hk ⟨j, j0, by omega, j2⟩
        · exact Or.inr z
    | succ m ih =>
      intro i c w i0 ie w2 ws wok wF wc
      obtain ⟨x, o, q, hk, hi⟩ := o3 i i0 (by omega)
      obtain ⟨hx, ho, hq, -⟩ := id hk
      obtain ⟨b1, b2, b3, b4⟩ := tcx_b hx ho hq
      obtain ⟨d1, d2, d3, d4⟩ := tcx_d (x := x) ho hq
      obtain ⟨hfe, v44, v45⟩ := hr x o q hk
      have hHb : 1 ≤ H x o q ∧ H x o q ≤ 16000 := by
        rcases hS.1 x o q hx ho hq with z | z
        · exact absurd z hfe.2.2.2
        · exact z.2
      have x0 := hx.1
      have x1 := hx.2
      have p0 := ho.1
      have p1 := ho.2
      have q0 := hq.1
      have q1 := hq.2
      refine k_163_4 ⟨⟨by omega, by omega⟩, ?_⟩
      rw [ws 232 (by decide), o1, ws 246 (by decide), hi, ws 245 (by decide), v45, s9]
      refine ⟨⟨by omega, by omega⟩, ?_⟩
      rw [if_pos (by omega)]
      refine ⟨i0, by omega, b3, by omega, ⟨by omega, by omega⟩, ⟨by omega, by omega⟩, ?_⟩
      by_cases eh : H x o q = h
      · rw [if_pos eh, Int.tdiv_eq_ediv_of_nonneg b3, Int.tmod_eq_emod_of_nonneg b3, d1, d2, Int.tdiv_eq_ediv_of_nonneg b1, Int.tmod_eq_emod_of_nonneg b1, d3, d4]
        refine ⟨⟨by omega, by omega⟩, ⟨by omega, by omega⟩, by omega, ⟨by omega, by omega⟩, by omega, by omega, fun z ez => ?_⟩
        -- as known ones are added
        let v' : uS := (fun b j => if b = 247 then w.1 253 j else w.1 b j, w.2)
        let w' : uS := (fun b j => if b = 247 then z.1 253 j else w.1 b j, w.2)
        have hv' : v'.1 247 = w.1 253 := by funext j; show (if (247 : Nat) = 247 then w.1 253 j else w.1 247 j) = w.1 253 j; rw [if_pos rfl]
        have hw' : w'.1 247 = z.1 253 := by funext j; show (if (247 : Nat) = 247 then z.1 253 j else w.1 247 j) = z.1 253 j; rw [if_pos rfl]
        obtain ⟨k1, k2⟩ := Kv_add (M := M) (v := v') (w := w') m4 (by rw [hv']; exact wok) hx ho hq (by rw [hw', hv', ez, wr_uf])
        have k2' : ∀ x' o' q', Fg (xv M) (xn M) (z.1 253) x' o' q' ↔ Fg (xv M) (xn M) (w.1 253) x' o' q' ∨ (x' = x ∧ o' = o ∧ q' = q) := fun x' o' q' => by
          have := k2 x' o' q'
          show Fg (xv M) (xn M) (z.1 253) x' o' q' ↔ _
          rw [← hw', ← hv']
          exact this
        rw [hw'] at k1
        refine ih (i + 1) 1 z (by omega) (by omega) (by rw [ez, wr_2]; exact w2) (by rw [ez]; exact sb1_wr ws (by decide)) k1 (fun x' o' q' => ?_) (Or.inr rfl)
        rw [k2', wF]
        constructor
        · rintro ((z | ⟨z1, z2, j, j0, j1, j2⟩) | ⟨z1, z2, z3⟩)
          · exact Or.inl z
          · exact Or.inr ⟨z1, z2, j, j0, by omega, j2⟩
          · rw [z1, z2, z3]
            exact Or.inr ⟨hk, eh, i, i0, by omega, hi⟩
        · rintro (z | ⟨z1, z2, j, j0, j1, j2⟩)
          · exact Or.inl (Or.inl z)
          · by_cases e : j = i
            · rw [e, hi] at j2
              obtain ⟨y1, y2, y3⟩ := tcx_i ho hq z1.2.1 z1.2.2.1 j2
              exact Or.inr ⟨y1.symm, y2.symm, y3.symm⟩
            · exact Or.inl (Or.inr ⟨z1, z2, j, j0, by omega, j2⟩)
      · rw [if_neg eh]
        refine ih (i + 1) c w (by omega) (by omega) w2 ws wok (fun x' o' q' => ?_) ?_
        · rw [wF]
          constructor
          · rintro (z | ⟨z1, z2, j, j0, j1, j2⟩)
            · exact Or.inl z
            · exact Or.inr ⟨z1, z2, j, j0, by omega, j2⟩
          · rintro (z | ⟨z1, z2, j, j0, j1, j2⟩)
            · exact Or.inl z
            · by_cases e : j = i
              · rw [e, hi] at j2
                obtain ⟨y1, y2, y3⟩ := tcx_i ho hq z1.2.1 z1.2.2.1 j2
                rw [← y1, ← y2, ← y3] at z2
                exact absurd z2 eh
              · exact Or.inr ⟨z1, z2, j, j0, by omega, j2⟩
        · rcases wc with ⟨z1, z2⟩ | z
          · refine Or.inl ⟨z1, fun x' o' q' hk' ⟨j, j0, j1, j2⟩ => ?_⟩
            by_cases e : j = i
            · rw [e, hi] at j2
              obtain ⟨y1, y2, y3⟩ := tcx_i ho hq hk'.2.1 hk'.2.2.1 j2
              rw [← y1, ← y2, ← y3]
              exact eh
            · exact z2 x' o' q' hk' ⟨j, j0, by omega, j2⟩
          · exact Or.inr z
  refine e_163 (loop s 0 0 v (Int.le_refl 0) (by omega) rfl (sb1_refl _ _) hok (fun x o q => ⟨fun z => Or.inl z, fun z => ?_⟩) (Or.inl ⟨rfl, fun x o q _ ⟨j, j0, j1, _⟩ => by omega⟩))
  rcases z with z | ⟨-, -, j, j0, j1, -⟩
  · exact z
  · omega
theorem q_164 {d mk : Nat} {M : Mg} {L H : T3} {v : uS} {s : Nat} {h r : Int} (hmk : mk = 59 ∨ mk = 61) (hMO : isO mk 5) (hM : Mok M) (hS : LHs M L H) (hG : GB M mk L H h v s) (h0 : 1 ≤ h) (h1 : h ≤ 16000) (r0 : 0 ≤ r) (r1 : r < xr M) : cV (d + 7) 164 [.ref 232, iV r, iV (h + 1)] v (fun w => GF2 v w ∧ (∃ s', GB M mk L H h w s') ∧ (∀ x o q, Kv M v x o q → Kv M w x o q) ∧ ∀ p q c g, iR (xn M) p → iR (xn M) q → wk M (fun x o b => Kv M v x o b ∧ H x o b ≤ h) L H r p (xl M r).toNat q c g → Kv M w (xh M r) p q) := by
  obtain ⟨m1, m2, m3, m4, m5, m6⟩ := id hM
  obtain ⟨nb1, nb2, nb3, nb4⟩ := nn_b m1 m4
  obtain ⟨l1, l2, l3, l4⟩ := m5 r r0 r1
  have l10 := l1.1
  have l11 := l1.2
  generalize hQQ : (fun w : uS => GF2 v w ∧ (∃ s', GB M mk L H h w s') ∧ (∀ x o q, Kv M v x o q → Kv M w x o q) ∧ ∀ p q c g, iR (xn M) p → iR (xn M) q → wk M (fun x o b => Kv M v x o b ∧ H x o b ≤ h) L H r p (xl M r).toNat q c g → Kv M w (xh M r) p q) = Q
  have hU : ∀ (w : uS) (s' : Nat), GB M mk L H h w s' → (∀ x o q, Kv M v x o q → Kv M w x o q) → (∀ x o q, Kv M w x o q → H x o q ≤ h → Kv M v x o q) → ∀ x o q, Fg (xv M) (xn M) (w.1 253) x o q ↔ Kv M v x o q ∧ H x o q ≤ h := fun w s' g k1 k2 x o q => by
    rw [g.2.2.2.2.2.2.2]
    exact ⟨fun z => ⟨k2 x o q z.1 z.2, z.2⟩, fun z => ⟨k1 x o q z.1, z.2⟩⟩
  have froms : ∀ (m : Nat) (p : Int) (w : uS) (s' : Nat), 0 ≤ p → p + m = xn M → GF2 v w → GB M mk L H h w s' → (∀ x o q, Kv M v x o q → Kv M w x o q) → (∀ x o q, Kv M w x o q → H x o q ≤ h → Kv M v x o q) → (∀ p' q c g, iR (xn M) p' → p' < p → iR (xn M) q → wk M (fun x o b => Kv M v x o b ∧ H x o b ≤ h) L H r p' (xl M r).toNat q c g → Kv M w (xh M r) p' q) → K_164 (d + 6) 13 [.ref 232, iV r, iV (h + 1), iV (xh M r), iV p, .retAddr 0, .retAddr 0, .retAddr 0, .retAddr 0, .retAddr 0] [] w Q := by
    intro m
    induction m with
    | zero =>
      intro p w s' p0 pe wF wG k1 k2 k3
      have s9 := wG.1.2.2.2.2.2.2.2.2
      refine k_164_13 ⟨⟨by omega, by omega⟩, ?_⟩
      rw [s9]
      refine ⟨⟨by omega, by omega⟩, ?_⟩
      rw [if_neg (by omega), ← hQQ]
      exact ⟨wF, ⟨s', wG⟩, k1, fun p' q c g hp' hq hw => k3 p' q c g hp' (by have := hp'.2; omega) hq hw⟩
    | succ m ih =>
      intro p w s' p0 pe wF wG k1 k2 k3
      have hpR : iR (xn M) p := ⟨p0, by omega⟩
      obtain ⟨g1, g2, g3, g4, g5, g6, g7, g8⟩ := id wG
      obtain ⟨s1, s2, s3, s4, s5, s6, s7, s8, s9⟩ := id g1
      refine k_164_13 ⟨⟨by omega, by omega⟩, ?_⟩
      rw [s9, s1, s2]
      refine ⟨⟨by omega, by omega⟩, ?_⟩
      rw [if_pos (by omega)]
      have hfo := p_142 (d := d + 1) (n := xn M) (nv := xv M) (l0 := 6) (mk := mk) (l2 := 253) (l5 := 254) (u := w) (r := r) (p := p) (F := Fg (xv M) (xn M) (w.1 253)) sx_6 hMO sx_253 sx_254 rfl rfl m4 m1 (by omega) ⟨r0, by omega⟩ (by show 0 ≤ w.1 9 r ∧ w.1 9 r ≤ 6; rw [s6]; exact ⟨l2, l3⟩) (fun k k0 k1' => by
        have k1'' : k < xl M r := by
          have : k < w.1 9 r := k1'
          rw [s6] at this
          exact this
        show symR (xv M) (w.1 10 (r * 6 + k))
        rw [s7]
        exact l4 k k0 k1'') (fun a c ha c0 c1 => by rw [s8]; exact m6 a c ha c0 c1) (fun x o hx ho => stB_F g7 hx ho) hpR
      refine cV.mono hfo (Nat.le_refl _) (fun z ⟨z1, z2, z3⟩ => ?_)
      have z6 : z.1 (6 + 3) = w.1 9 := z1 _ (by decide)
      rw [z2, s1, z6, s6]
      refine ⟨sx_6, r0, by omega, l2, by omega, by omega, by omega, ?_⟩
      have efol : (fun k : Int => w.1 (6 + 4) (r * 6 + k)) = xy M r := by
        funext k
        exact s7 r k
      have edl : (fun a c : Int => w.1 (mk + 1) (a * 10 + c)) = xd M := by
        funext a c
        exact s8 a c
      have h3 := z3 (xl M r).toNat (by show (((xl M r).toNat : Nat) : Int) ≤ w.1 9 r; rw [s6]; omega)
      rw [efol, edl, show (((xl M r).toNat : Nat) : Int) = xl M r by omega] at h3
      -- the ends that are new
      have hzG : GB M mk L H h z s' := by
        have e : ∀ b, b ≠ 254 → z.1 b = w.1 b := fun b hb => z1 b (by simp only [List.mem_singleton]; exact hb)
        have eK : Kv M z = Kv M w := by
          show Fg (xv M) (xn M) (z.1 247) = Fg (xv M) (xn M) (w.1 247)
          rw [e 247 (by omega)]
        refine ⟨sA_of g1 z2 (e _ (by omega)) (e _ (by omega)) (e _ (by omega)) (e _ (by omega)) (e _ (by omega)) (by rw [e 232 (by omega)]), by rw [e 247 (by omega)]; exact g2, ?_, ?_, by rw [eK]; exact g5, by rw [eK]; exact g6, by rw [e 253 (by omega)]; exact g7, by rw [eK, e 253 (by omega)]; exact g8⟩
        · intro x o q hk
          rw [eK] at hk
          rw [e 244 (by omega), e 245 (by omega)]
          exact g3 x o q hk
        · unfold OD at g4 ⊢
          rw [eK, e 232 (by omega), e 246 (by omega)]
          exact g4
      have hzK : Kv M z = Kv M w := by
        show Fg (xv M) (xn M) (z.1 247) = Fg (xv M) (xn M) (w.1 247)
        rw [z1 247 (by decide)]
      have hzF : GF2 w z := by
        have e32 : z.1 232 = w.1 232 := z1 _ (by decide)
        exact ⟨z2, sb1_sub z1 (by decide), by rw [e32], by rw [e32], by rw [e32]⟩
      have hends : ∀ i : Nat, bt (land (z.1 254 (xl M r)) (lxor (z.1 247 (xh M r * 40 + p)) (-1))) i = true ↔ iR (xn M) (i : Int) ∧ fol (Fg (xv M) (xn M) (w.1 253)) (xd M) (xy M r) (xn M) p (xl M r).toNat i ∧ ¬ Kv M w (xh M r) p i := fun i => by
        rw [bt_land, Bool.and_eq_true, h3.2 i, bt_lxor]
        have e47 : z.1 247 = w.1 247 := z1 _ (by decide)
        rw [e47]
        constructor
        · rintro ⟨⟨q1, q2⟩, q3⟩
          have hiR : iR (xn M) (i : Int) := ⟨by omega, q1⟩
          refine ⟨hiR, q2, fun hk => ?_⟩
          have hk' := hk.2.2.2
          rw [show ((i : Int)).toNat = i by omega] at hk'
          rw [hk', bt_m1 (by have := m4; omega)] at q3
          exact absurd q3 (by decide)
        · rintro ⟨q1, q2, q3⟩
          refine ⟨⟨q1.2, q2⟩, ?_⟩
          have q12 := q1.2
          rw [bt_m1 (by omega)]
          cases hb : bt (w.1 247 (xh M r * 40 + p)) i with
          | false => rfl
          | true => exact absurd ⟨l1, hpR, q1, by rw [show ((i : Int)).toNat = i by omega]; exact hb⟩ q3
      have hUw := hU w s' wG k1 k2
      -- one end after the other
      have bits : ∀ (n' : Nat) (X : Int) (y : uS) (sy : Nat), ct (bt X) 64 ≤ n' → rL X → (∀ i, bt X i = true → bt (land (z.1 254 (xl M r)) (lxor (z.1 247 (xh M r * 40 + p)) (-1))) i = true) → GF2 w y → GB M mk L H h y sy → (∀ x o q, Kv M y x o q ↔ Kv M w x o q ∨ (x = xh M r ∧ o = p ∧ bt (land (z.1 254 (xl M r)) (lxor (z.1 247 (xh M r * 40 + p)) (-1))) q.toNat = true ∧ bt X q.toNat = false ∧ iR (xn M) q)) → (∀ x o q, Kv M y x o q → H x o q ≤ h → Kv M v x o q) → K_164 (d + 6) 80 [.ref 232, iV r, iV (h + 1), iV (xh M r), iV p, .retAddr 0, .retAddr 0, lV X, .retAddr 0, .retAddr 0] [] y Q := by
        have done : ∀ (X : Int) (y : uS) (sy : Nat), X = 0 → GF2 w y → GB M mk L H h y sy → (∀ x o q, Kv M y x o q ↔ Kv M w x o q ∨ (x = xh M r ∧ o = p ∧ bt (land (z.1 254 (xl M r)) (lxor (z.1 247 (xh M r * 40 + p)) (-1))) q.toNat = true ∧ bt X q.toNat = false ∧ iR (xn M) q)) → (∀ x o q, Kv M y x o q → H x o q ≤ h → Kv M v x o q) → K_164 (d + 6) 13 [.ref 232, iV r, iV (h + 1), iV (xh M r), iV (p + 1), .retAddr 0, .retAddr 0, .retAddr 0, .retAddr 0, .retAddr 0] [] y Q := by
          intro X y sy hX0 yF yG yK yk2
          refine ih (p + 1) y sy (by omega) (by omega) (GF2_tr wF yF) yG (fun x o q hk => (yK x o q).mpr (Or.inl (k1 x o q hk))) yk2 (fun p' q c g hp' hlt hq hw => ?_)
          by_cases e : p' = p
          · rw [e] at hw ⊢
            by_cases hkw : Kv M w (xh M r) p q
            · exact (yK _ _ _).mpr (Or.inl hkw)
            · refine (yK _ _ _).mpr (Or.inr ⟨rfl, rfl, ?_, by rw [hX0, bt_0], hq⟩)
              have hq0 := hq.1
              rw [hends q.toNat, show ((q.toNat : Nat) : Int) = q by omega]
              refine ⟨hq, wk_fol _ _ _ _ (wk_mono (fun x o b hh => (hUw x o b).mpr hh) _ _ _ _ hw), hkw⟩
          · exact (yK _ _ _).mpr (Or.inl (k3 p' q c g hp' (by omega) hq hw))
        intro n'
        induction n' with
        | zero =>
          intro X y sy hn hX hsub yF yG yK yk2
          have hX0 : X = 0 := by
            refine bt_ext hX ⟨by omega, by omega⟩ (fun i hi64 => ?_)
            rw [bt_0]
            cases hb : bt X i with
            | false => rfl
            | true =>
              have := ct_lt (p := fun _ => false) (q := bt X) 64 (fun _ _ h => by cases h) ⟨i, hi64, rfl, hb⟩
              omega
          refine k_164_80 ⟨hX, ?_⟩
          rw [if_pos hX0]
          exact done X y sy hX0 yF yG yK yk2
        | succ n' ihn =>
          intro X y sy hn hX hsub yF yG yK yk2
          refine k_164_80 ⟨hX, ?_⟩
          by_cases hX0 : X = 0
          · rw [if_pos hX0]
            exact done X y sy hX0 yF yG yK yk2
          · rw [if_neg hX0]
            obtain ⟨t, t1, t2, t3, t4, t5⟩ := bits_ct hX hX0
            have htE := hsub t t3
            obtain ⟨tR, tfol, tnk⟩ := (hends t).mp htE
            obtain ⟨y1, y2, y3, y4, y5, y6, y7, y8⟩ := id yG
            have y9 := y1.2.2.2.2.2.2.2.2
            obtain ⟨b1, b2, b3, b4⟩ := tcx_b l1 hpR tR
            obtain ⟨d1, d2, d3, d4⟩ := tcx_d (x := xh M r) hpR tR
            have tnky : ¬ Kv M y (xh M r) p t := fun hk => by
              rcases (yK _ _ _).mp hk with z | ⟨-, -, -, z, -⟩
              · exact tnk z
              · rw [show ((t : Int)).toNat = t by omega, t3] at z
                cases z
            -- it is great, and of this height
            obtain ⟨cc, gg, hwk⟩ := fol_wk (L := L) (H := H) _ _ tfol
            have hwk' : wk M (fun x o b => Kv M v x o b ∧ H x o b ≤ h) L H r p (xl M r).toNat t cc gg := wk_mono (fun x o b hh => (hUw x o b).mp hh) _ _ _ _ hwk
            have hgg := wk_hb (B := h) (by omega) (fun x o q hh => hh.2) _ _ _ _ hwk'
            have hfew : ∀ x o q, Kv M v x o q → Fe M L x o q := fun x o q hk => (g3 x o q (k1 x o q hk)).1
            obtain ⟨f1, f2⟩ := hS.2.1 r p t cc gg r0 r1 hpR tR (wk_mono (fun x o b hh => hfew x o b hh.1) _ _ _ _ hwk')
            have hFe : Fe M L (xh M r) p t := ⟨l1, hpR, tR, by omega⟩
            have hcb : cB (L (xh M r) p t) ∧ 1 ≤ H (xh M r) p t ∧ H (xh M r) p t ≤ 16000 := by
              rcases hS.1 _ _ _ l1 hpR tR with z | z
              · exact absurd z hFe.2.2.2
              · exact z
            have hLM : L (xh M r) p t = 4000000000000000000 := by
              have := hcb.1.2
              by_cases e : L (xh M r) p t < 4000000000000000000
              · exact absurd (y6 _ _ _ hFe (Or.inl e)) tnky
              · omega
            have hHh : H (xh M r) p t = h + 1 := by
              have a1 := f2 (by omega)
              by_cases e : H (xh M r) p t ≤ h
              · exact absurd (y6 _ _ _ hFe (Or.inr e)) tnky
              · omega
            rw [t2, y9, show (xh M r * (xn M : Int) + p) * (xn M : Int) + (t : Int) = tcx (xn M) (xh M r) p t from rfl]
            refine ⟨b3, by omega, fun u5 e5 u7 e7 => ?_⟩
            have u32 : u7.1 232 = y.1 232 := by rw [e7, wr_ne (by omega), e5, wr_ne (by omega)]
            have hODy := y4
            obtain ⟨od1, -⟩ := id y4
            have hsy16 : sy < 16000 := by
              -- room for one more
              have hct := y4.2.1
              have hne := ct_full (p := fun a => pd (∃ x o q, Kv M y x o q ∧ (a : Int) = tcx (xn M) x o q)) 16000
              by_cases e : sy < 16000
              · exact e
              · have := hne (by omega) (tcx (xn M) (xh M r) p t).toNat (by omega)
                rw [pd_t] at this
                obtain ⟨x, o, q, q1, q2⟩ := this
                rw [show (((tcx (xn M) (xh M r) p t).toNat : Nat) : Int) = tcx (xn M) (xh M r) p t by omega] at q2
                obtain ⟨z1, z2, z3⟩ := tcx_i hpR tR q1.2.1 q1.2.2.1 q2
                rw [z1, z2, z3] at tnky
                exact absurd q1 tnky
            rw [u32, od1]
            refine ⟨by omega, by omega, fun u11 e11 u13 e13 => ?_⟩
            have u11s : u11.1 232 7 = sy := by rw [e11, wr_ne (by omega), u32]; exact od1
            rw [u11s] at e13
            have u132 : u13.1 232 2 = xn M := by rw [e13, wr_uf, uf_ne (by decide), e11, wr_ne (by omega), u32]; exact y9
            have u1347 : u13.1 247 = y.1 247 := by rw [e13, wr_ne (by omega), e11, wr_ne (by omega), e7, wr_ne (by omega), e5, wr_ne (by omega)]
            rw [u132, Int.tdiv_eq_ediv_of_nonneg b3, Int.tmod_eq_emod_of_nonneg b3, d1, d2, Int.tdiv_eq_ediv_of_nonneg b1, Int.tmod_eq_emod_of_nonneg b1, d3, d4]
            refine ⟨⟨by omega, by omega⟩, ⟨by omega, by omega⟩, by omega, ⟨by omega, by omega⟩, by omega, by omega, fun o eo => ?_⟩
            have hpn := hpR.2
            have o47 : o.1 247 = uf (y.1 247) (xh M r * 40 + p) (lor (y.1 247 (xh M r * 40 + p)) (lshl 1 (t : Int))) := by rw [eo, wr_uf, u1347]
            have o46 : o.1 246 = uf (y.1 246) sy (tcx (xn M) (xh M r) p t) := by rw [eo, wr_ne (by omega), e13, wr_ne (by omega), e11, wr_uf, e7, wr_ne (by omega), e5, wr_ne (by omega)]
            have o44 : o.1 244 = uf (y.1 244) (tcx (xn M) (xh M r) p t) 4000000000000000000 := by rw [eo, wr_ne (by omega), e13, wr_ne (by omega), e11, wr_ne (by omega), e7, wr_ne (by omega), e5, wr_uf]
            have o45 : o.1 245 = uf (y.1 245) (tcx (xn M) (xh M r) p t) (h + 1) := by rw [eo, wr_ne (by omega), e13, wr_ne (by omega), e11, wr_ne (by omega), e7, wr_uf, e5, wr_ne (by omega)]
            have o32 : o.1 232 = uf (y.1 232) 7 ((sy : Int) + 1) := by rw [eo, wr_ne (by omega), e13, wr_uf, e11, wr_ne (by omega), u32]
            have ob : ∀ b, b ≠ 232 → b ≠ 244 → b ≠ 245 → b ≠ 246 → b ≠ 247 → o.1 b = y.1 b := fun b q1 q2 q3 q4 q5 => by rw [eo, wr_ne q5, e13, wr_ne q1, e11, wr_ne q4, e7, wr_ne q3, e5, wr_ne q2]
            have o2 : o.2 = y.2 := by rw [eo, wr_2, e13, wr_2, e11, wr_2, e7, wr_2, e5, wr_2]
            have oF : GF2 y o := ⟨o2, fun b hb => by simp only [fG, List.mem_cons, List.not_mem_nil, or_false, not_or] at hb; exact ob b (by omega) (by omega) (by omega) (by omega) (by omega), by rw [o32, uf_ne (by decide)], by rw [o32, uf_ne (by decide)], by rw [o32, uf_ne (by decide)]⟩
            obtain ⟨okok, okK⟩ := Kv_add m4 y2 l1 hpR tR o47
            obtain ⟨oOD, -⟩ := OD_add hM y4 l1 hpR tR tnky okK o46 (by rw [o32, uf_eq]) (fun x o' q hk ⟨q1, q2⟩ => by
              rcases y5 x o' q hk with z | z
              · omega
              · omega)
            have oG : GB M mk L H h o (sy + 1) := by
              refine ⟨sA_tr hmk y1 o2 oF.2.1 oF.2.2.1, okok, fun x o' q hk => ?_, oOD, fun x o' q hk => ?_, fun x o' q hf hh => (okK x o' q).mpr (Or.inl (y6 x o' q hf hh)), by rw [ob 253 (by omega) (by omega) (by omega) (by omega) (by omega)]; exact y7, fun x o' q => ?_⟩
              · rw [o44, o45]
                rcases (okK x o' q).mp hk with z | ⟨z1, z2, z3⟩
                · have hne : tcx (xn M) x o' q ≠ tcx (xn M) (xh M r) p t := fun e => by
                    obtain ⟨w1, w2, w3⟩ := tcx_i z.2.1 z.2.2.1 hpR tR e
                    rw [w1, w2, w3] at z
                    exact tnky z
                  rw [uf_ne hne, uf_ne hne]
                  exact y3 x o' q z
                · rw [z1, z2, z3, uf_eq, uf_eq]
                  exact ⟨hFe, hLM.symm, hHh.symm⟩
              · rcases (okK x o' q).mp hk with z | ⟨z1, z2, z3⟩
                · exact y5 x o' q z
                · rw [z1, z2, z3]
                  exact Or.inr ⟨hLM, by omega⟩
              · rw [ob 253 (by omega) (by omega) (by omega) (by omega) (by omega), y8 x o' q, okK x o' q]
                constructor
                · rintro ⟨z1, z2⟩; exact ⟨Or.inl z1, z2⟩
                · rintro ⟨z1 | ⟨w1, w2, w3⟩, z2⟩
                  · exact ⟨z1, z2⟩
                  · rw [w1, w2, w3] at z2
                    omega
            refine ihn _ o (sy + 1) (by omega) (rl_land _ _) (fun i hi => ?_) (GF2_tr yF oF) oG (fun x o' q => ?_) (fun x o' q hk hh => ?_)
            · rw [t4, Bool.and_eq_true] at hi
              exact hsub i hi.1
            · rw [okK x o' q, yK x o' q, t4]
              constructor
              · rintro ((z | ⟨w1, w2, w3, w4, w5⟩) | ⟨w1, w2, w3⟩)
                · exact Or.inl z
                · exact Or.inr ⟨w1, w2, w3, by rw [w4]; rfl, w5⟩
                · rw [w3]
                  refine Or.inr ⟨w1, w2, by rw [show ((t : Int)).toNat = t by omega]; exact htE, by rw [show ((t : Int)).toNat = t by omega]; simp, tR⟩
              · rintro (z | ⟨w1, w2, w3, w4, w5⟩)
                · exact Or.inl (Or.inl z)
                · by_cases e : q.toNat = t
                  · exact Or.inr ⟨w1, w2, by have := w5.1; omega⟩
                  · exact Or.inl (Or.inr ⟨w1, w2, w3, by simpa [e] using w4, w5⟩)
            · rcases (okK x o' q).mp hk with z | ⟨w1, w2, w3⟩
              · exact yk2 x o' q z hh
              · rw [w1, w2, w3] at hh
                omega
      refine bits 64 _ z s' (ct_le _ 64) (rl_land _ _) (fun i hi => hi) hzF hzG (fun x o q => ?_) (fun x o q hk hh => by rw [hzK] at hk; exact k2 x o q hk hh)
      rw [hzK]
      constructor
      · exact fun hk => Or.inl hk
      · rintro (hk | ⟨-, -, q3, q4, -⟩)
        · exact hk
        · rw [q3] at q4
          cases q4
  refine e_164 ?_
  rw [hG.1.1, show v.1 (6 + 2) = v.1 8 from rfl, hG.1.2.2.2.2.1]
  refine ⟨sx_6, r0, by omega, froms (xn M) 0 v s (Int.le_refl 0) (by omega) (GF2_refl v) hG (fun _ _ _ h => h) (fun _ _ _ h _ => h) (fun p' q c g hp' hlt => by have := hp'.1; omega)⟩
