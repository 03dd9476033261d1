/-! The search: the least one in the heap is right; it is settled -/
theorem pop_right {M : Mg} {mk : Nat} {L H : T3} {v : uS} {y a b : Int} (hM : Mok M) (hS : LHs M L H) (hR : RIv M mk L H v) (hC : ∀ (r : Int) (d : Nat) (p q : Int), Ent M r d p q → CI M L H v r d p q) (h0 : ∀ r p : Int, 0 ≤ r → r < xr M → xl M r = 0 → iR (xn M) p → rc M v r 0 p p 0 0) (hy : iR (xv M) y) (ha : iR (xn M) a) (hb : iR (xn M) b) (hel : elH (v.1 248) (v.1 232 11) (tcx (xn M) y a b)) (hmin : ∀ a', elH (v.1 248) (v.1 232 11) a' → ¬ ls v a' (tcx (xn M) y a b)) : Fe M L y a b ∧ v.1 244 (tcx (xn M) y a b) = L y a b ∧ v.1 245 (tcx (xn M) y a b) = H y a b ∧ L y a b < 4000000000000000000 ∧ ∀ x o q, Fe M L x o q → ¬ Kv M v x o q → L y a b < L x o q ∨ L y a b = L x o q ∧ H y a b ≤ H x o q := by
  obtain ⟨a1, a2, a3, a4, a5, a6, a7, a8, a9⟩ := id hR
  obtain ⟨r, g, r0, r1, rx, hw, hg, hc⟩ := a8 y a b hy ha hb hel
  have hKF : ∀ x o b, Kv M v x o b → Fe M L x o b := fun x o b h => (a4 x o b h).1
  have hb1 := wk_b hS hKF _ _ _ _ hw
  obtain ⟨b1, b2⟩ := hS.2.1 r a b _ g r0 r1 ha hb (wk_mono hKF _ _ _ _ hw)
  rw [rx] at b1 b2
  generalize hlen : v.1 244 (tcx (xn M) y a b) = len at *
  generalize hhgt : v.1 245 (tcx (xn M) y a b) = hgt at *
  have hfe : Fe M L y a b := ⟨hy, ha, hb, by omega⟩
  have key : ∀ x o q, Fe M L x o q → ¬ Kv M v x o q → len < L x o q ∨ len = L x o q ∧ hgt ≤ H x o q := by
    intro x o q hf hK
    obtain ⟨x', o', q', f1, f2, f3, f4, r', c', g', k0, k1, kx, kw, kc, kg⟩ := wk_next hS (K := Kv M v) (H x o q).toNat x o q hf hK (by omega)
    by_cases hsm : L x' o' q' < 4000000000000000000
    · have hcM : c' < 4000000000000000000 := by omega
      have hl0 := (hM.2.2.2.2.1 r' k0 k1).2.1
      have hw' : wk M (Kv M v) L H r' o' (xl M r').toNat q' c' g' := wk_mono (fun _ _ _ h => h.2) _ _ _ _ kw
      have hrc := all_rc hS hR (fun r d p q e0 e1 e2 e3 e4 => hC r d p q ⟨e0, e1, e2, e3, e4⟩) h0 k0 k1 f1.2.1 (xl M r').toNat q' c' g' (by
        have := (hM.2.2.2.2.1 r' k0 k1).2.1
        omega) f1.2.2.1 hw' hcM (by omega)
      unfold rc at hrc
      rw [if_neg (by omega), kx] at hrc
      rcases hrc with e | ⟨e1, e2⟩
      · exact absurd e f2
      · have hn := hmin _ e1
        unfold ls at hn
        rw [hlen, hhgt] at hn
        omega
    · left
      omega
  have kt := fun hK => key y a b hfe hK
  have hnK : ¬ Kv M v y a b := by
    obtain ⟨x', o', q', e1, e2, e3, e4, e5⟩ := a6 _ hel
    obtain ⟨z1, z2, z3⟩ := tcx_i ha hb e2 e3 e4
    rw [z1, z2, z3]
    exact e5
  have := kt hnK
  have el : len = L y a b := by omega
  have eh : hgt = H y a b := by omega
  refine ⟨hfe, el, eh, by omega, fun x o q hf hK => ?_⟩
  have := key x o q hf hK
  omega
theorem Kv_add {M : Mg} {v w : uS} {y a b : Int} (hn : xn M ≤ 40) (hok : okF (xv M) (xn M) (v.1 247)) (hy : iR (xv M) y) (ha : iR (xn M) a) (hb : iR (xn M) b) (e : w.1 247 = uf (v.1 247) (y * 40 + a) (lor (v.1 247 (y * 40 + a)) (lshl 1 b))) : okF (xv M) (xn M) (w.1 247) ∧ ∀ x o q, Kv M w x o q ↔ Kv M v x o q ∨ (x = y ∧ o = a ∧ q = b) := by
  have y0 := hy.1
  have a0 := ha.1
  have a1 := ha.2
  have b0 := hb.1
  have b1 := hb.2
  have hbit : ∀ i : Nat, bt (lor (v.1 247 (y * 40 + a)) (lshl 1 b)) i = true ↔ bt (v.1 247 (y * 40 + a)) i = true ∨ i = b.toNat := fun i => by
    rw [bt_lor, Bool.or_eq_true, bt_bit b0 (by omega), decide_eq_true_eq]
  have idx : ∀ x o, iR (xv M) x → iR (xn M) o → (x * 40 + o = y * 40 + a ↔ x = y ∧ o = a) := fun x o hx ho => by
    have := hx.1
    have := ho.1
    have := ho.2
    omega
  refine ⟨fun x o hx ho => ?_, fun x o q => ?_⟩
  · rw [e]
    by_cases h : x * 40 + o = y * 40 + a
    · rw [h, uf_eq]
      refine ⟨rl_lor _ _, fun i hi => ?_⟩
      rcases (hbit i).mp hi with z | z
      · exact (hok y a hy ha).2 i z
      · omega
    · rw [uf_ne h]
      exact hok x o hx ho
  · constructor
    · rintro ⟨hx, ho, hq, hbt⟩
      rw [e] at hbt
      by_cases h : x * 40 + o = y * 40 + a
      · obtain ⟨h1, h2⟩ := (idx x o hx ho).mp h
        rw [h, uf_eq] at hbt
        rcases (hbit q.toNat).mp hbt with z | z
        · refine Or.inl ⟨hx, ho, hq, ?_⟩
          rw [h]
          exact z
        · exact Or.inr ⟨h1, h2, by have := hq.1; omega⟩
      · rw [uf_ne h] at hbt
        exact Or.inl ⟨hx, ho, hq, hbt⟩
    · rintro (⟨hx, ho, hq, hbt⟩ | ⟨h1, h2, h3⟩)
      · refine ⟨hx, ho, hq, ?_⟩
        rw [e]
        by_cases h : x * 40 + o = y * 40 + a
        · rw [h, uf_eq]
          rw [h] at hbt
          exact (hbit _).mpr (Or.inl hbt)
        · rw [uf_ne h]
          exact hbt
      · rw [h1, h2, h3]
        refine ⟨hy, ha, hb, ?_⟩
        rw [e, uf_eq]
        exact (hbit _).mpr (Or.inr rfl)
/-- the settled ones in their order: lower and no longer ones are ahead -/
def OD (M : Mg) (L H : T3) (v : uS) (s : Nat) : Prop := v.1 232 7 = s ∧ s = ct (fun a => pd (∃ x o q, Kv M v x o q ∧ (a : Int) = tcx (xn M) x o q)) 16000 ∧ (∀ i : Int, 0 ≤ i → i < s → ∃ x o q, Kv M v x o q ∧ v.1 246 i = tcx (xn M) x o q) ∧ (∀ x o q, Kv M v x o q → ∃ i : Int, 0 ≤ i ∧ i < s ∧ v.1 246 i = tcx (xn M) x o q) ∧ ∀ (i x o q x' o' q' : Int), 0 ≤ i → i < s → Kv M v x o q → v.1 246 i = tcx (xn M) x o q → Kv M v x' o' q' → L x' o' q' ≤ L x o q → H x' o' q' < H x o q → ∃ j : Int, 0 ≤ j ∧ j < i ∧ v.1 246 j = tcx (xn M) x' o' q'
theorem OD_add {M : Mg} {L H : T3} {v w : uS} {s : Nat} {y a b : Int} (hM : Mok M) (hO : OD M L H v s) (hy : iR (xv M) y) (ha : iR (xn M) a) (hb : iR (xn M) b) (hK : ¬ Kv M v y a b) (hKw : ∀ x o q, Kv M w x o q ↔ Kv M v x o q ∨ (x = y ∧ o = a ∧ q = b)) (e6 : w.1 246 = uf (v.1 246) s (tcx (xn M) y a b)) (e7 : w.1 232 7 = (s : Int) + 1) (hmon : ∀ x o q, Kv M v x o q → ¬ (L y a b ≤ L x o q ∧ H y a b < H x o q)) : OD M L H w (s + 1) ∧ s < 16000 := by
  obtain ⟨o1, o2, o3, o4, o5⟩ := hO
  obtain ⟨m1, m2, m3, m4, -⟩ := id hM
  obtain ⟨nb1, nb2, nb3, nb4⟩ := nn_b m1 m4
  obtain ⟨b1, b2, b3, b4⟩ := tcx_b hy ha hb
  have hup := ct_upd (p := fun c => pd (∃ x o q, Kv M v x o q ∧ (c : Int) = tcx (xn M) x o q)) (p' := fun c => pd (∃ x o q, Kv M w x o q ∧ (c : Int) = tcx (xn M) x o q)) (j := (tcx (xn M) y a b).toNat) 16000 (by omega) (fun i hi hne => by
    have : (∃ x o q, Kv M w x o q ∧ (i : Int) = tcx (xn M) x o q) ↔ (∃ x o q, Kv M v x o q ∧ (i : Int) = tcx (xn M) x o q) := by
      constructor
      · rintro ⟨x, o, q, h1, h2⟩
        rcases (hKw x o q).mp h1 with z | ⟨z1, z2, z3⟩
        · exact ⟨x, o, q, z, h2⟩
        · rw [z1, z2, z3] at h2
          omega
      · rintro ⟨x, o, q, h1, h2⟩
        exact ⟨x, o, q, (hKw x o q).mpr (Or.inl h1), h2⟩
    show pd _ = pd _
    rw [propext this]) (by
    show pd _ = false
    rw [pd_f]
    rintro ⟨x, o, q, h1, h2⟩
    rw [show (((tcx (xn M) y a b).toNat : Nat) : Int) = tcx (xn M) y a b by omega] at h2
    obtain ⟨e1, e2, e3⟩ := tcx_i ha hb h1.2.1 h1.2.2.1 h2
    rw [e1, e2, e3] at hK
    exact hK h1) (by
    show pd _ = true
    rw [pd_t]
    exact ⟨y, a, b, (hKw y a b).mpr (Or.inr ⟨rfl, rfl, rfl⟩), by omega⟩)
  have hle := ct_le (fun c => pd (∃ x o q, Kv M w x o q ∧ (c : Int) = tcx (xn M) x o q)) 16000
  have hs : s < 16000 := by omega
  have f6 : ∀ i : Int, 0 ≤ i → i < s → w.1 246 i = v.1 246 i := fun i _ h => by rw [e6, uf_ne (by omega)]
  have f6s : w.1 246 s = tcx (xn M) y a b := by rw [e6, uf_eq]
  refine ⟨⟨by rw [e7]; omega, by omega, fun i i0 i1 => ?_, fun x o q hk => ?_, fun i x o q x' o' q' i0 i1 hk hi hk' hL hH => ?_⟩, hs⟩
  · by_cases e : i = s
    · rw [e]
      exact ⟨y, a, b, (hKw y a b).mpr (Or.inr ⟨rfl, rfl, rfl⟩), f6s⟩
    · obtain ⟨x, o, q, h1, h2⟩ := o3 i i0 (by omega)
      exact ⟨x, o, q, (hKw x o q).mpr (Or.inl h1), by rw [f6 i i0 (by omega)]; exact h2⟩
  · rcases (hKw x o q).mp hk with z | ⟨z1, z2, z3⟩
    · obtain ⟨i, i0, i1, i2⟩ := o4 x o q z
      exact ⟨i, i0, by omega, by rw [f6 i i0 i1]; exact i2⟩
    · exact ⟨s, by omega, by omega, by rw [z1, z2, z3]; exact f6s⟩
  · by_cases e : i = s
    · -- the new one: all others are ahead
      rw [e, f6s] at hi
      obtain ⟨z1, z2, z3⟩ := tcx_i ha hb hk.2.1 hk.2.2.1 hi
      rcases (hKw x' o' q').mp hk' with z | ⟨y1, y2, y3⟩
      · obtain ⟨j, j0, j1, j2⟩ := o4 x' o' q' z
        exact ⟨j, j0, by omega, by rw [f6 j j0 j1]; exact j2⟩
      · rw [y1, y2, y3, ← z1, ← z2, ← z3] at hH
        omega
    · rw [f6 i i0 (by omega)] at hi
      obtain ⟨x2, o2', q2, h1, h2⟩ := o3 i i0 (by omega)
      rw [h2] at hi
      obtain ⟨z1, z2, z3⟩ := tcx_i h1.2.1 h1.2.2.1 hk.2.1 hk.2.2.1 hi
      rw [z1, z2, z3] at h1 h2
      rcases (hKw x' o' q').mp hk' with z | ⟨y1, y2, y3⟩
      · obtain ⟨j, j0, j1, j2⟩ := o5 i x o q x' o' q' i0 (by omega) h1 h2 z hL hH
        exact ⟨j, j0, j1, by rw [f6 j j0 (by omega)]; exact j2⟩
      · rw [y1, y2, y3] at hL hH
        exact absurd ⟨hL, hH⟩ (hmon x o q h1)
/-- what holds between two turns -/
def FI (M : Mg) (mk : Nat) (L H : T3) (v : uS) (s : Nat) : Prop := RIv M mk L H v ∧ (∀ (r : Int) (d : Nat) (p q : Int), Ent M r d p q → CI M L H v r d p q) ∧ (∀ r p : Int, 0 ≤ r → r < xr M → xl M r = 0 → iR (xn M) p → rc M v r 0 p p 0 0) ∧ OD M L H v s ∧ (∀ k1 k2 k3 x o q, Kv M v k1 k2 k3 → Fe M L x o q → ¬ Kv M v x o q → L k1 k2 k3 < L x o q ∨ L k1 k2 k3 = L x o q ∧ H k1 k2 k3 ≤ H x o q) ∧ ∀ x o q, Kv M v x o q → L x o q < 4000000000000000000
/-- the least one is taken and settled -/
theorem settle1 {M : Mg} {mk : Nat} {L H : T3} {v w w1 w2 w3 : uS} {s : Nat} {y a b : Int} (hmk : mk = 59 ∨ mk = 61) (hM : Mok M) (hS : LHs M L H) (hI : FI M mk L H v s) (hy : iR (xv M) y) (ha : iR (xn M) a) (hb : iR (xn M) b) (hel : elH (v.1 248) (v.1 232 11) (tcx (xn M) y a b)) (hmin : ∀ a', elH (v.1 248) (v.1 232 11) a' → ¬ ls v a' (tcx (xn M) y a b)) (hP : HP w (v.1 232 11 - 1)) (h2 : w.2 = v.2) (hs : sb1 v w [232, 248, 249]) (h32 : ∀ i : Int, i ≠ 11 → w.1 232 i = v.1 232 i) (h11 : w.1 232 11 = v.1 232 11 - 1) (he : ∀ a', elH (w.1 248) (v.1 232 11 - 1) a' ↔ elH (v.1 248) (v.1 232 11) a' ∧ a' ≠ tcx (xn M) y a b) (h49 : ∀ a', ¬ elH (v.1 248) (v.1 232 11) a' → w.1 249 a' = v.1 249 a') (e1 : w1 = wr w 246 s (tcx (xn M) y a b)) (e2 : w2 = wr w1 232 7 ((s : Int) + 1)) (e3 : w3 = wr w2 247 (y * 40 + a) (lor (w2.1 247 (y * 40 + a)) (lshl 1 b))) : RIv M mk L H w3 ∧ (∀ (r : Int) (d : Nat) (p q : Int), Ent M r d p q → CIk M (Kv M v) L H w3 r d p q) ∧ (∀ r p : Int, 0 ≤ r → r < xr M → xl M r = 0 → iR (xn M) p → rc M w3 r 0 p p 0 0) ∧ OD M L H w3 (s + 1) ∧ s < 16000 ∧ (∀ x o q, Kv M w3 x o q ↔ Kv M v x o q ∨ (x = y ∧ o = a ∧ q = b)) ∧ L y a b < 4000000000000000000 ∧ (∀ k1 k2 k3 x o q, Kv M w3 k1 k2 k3 → Fe M L x o q → ¬ Kv M w3 x o q → L k1 k2 k3 < L x o q ∨ L k1 k2 k3 = L x o q ∧ H k1 k2 k3 ≤ H x o q) ∧ (∀ x o q, Kv M w3 x o q → L x o q < 4000000000000000000) ∧ ∀ x o q, Fe M L x o q → ¬ Kv M v x o q → L y a b < L x o q ∨ L y a b = L x o q ∧ H y a b ≤ H x o q := by
  obtain ⟨hR, hC, h0, hO, hN, hSm⟩ := hI
  obtain ⟨a1, a2, a3, a4, a5, a6, a7, a8, a9⟩ := id hR
  obtain ⟨r1, r2, r3, r4, r5⟩ := pop_right hM hS hR hC h0 hy ha hb hel hmin
  obtain ⟨m1, m2, m3, m4, m5, m6⟩ := id hM
  have hnK : ¬ Kv M v y a b := by
    obtain ⟨x', o', q', g1, g2, g3, g4, g5⟩ := a6 _ hel
    obtain ⟨z1, z2, z3⟩ := tcx_i ha hb g2 g3 g4
    rw [z1, z2, z3]
    exact g5
  have f : ∀ c, c ≠ 232 → c ≠ 246 → c ≠ 247 → c ≠ 248 → c ≠ 249 → w3.1 c = v.1 c := fun c k1 k2 k3 k4 k5 => by
    rw [e3, wr_ne k3, e2, wr_ne k1, e1, wr_ne k2]
    exact hs c (by simp only [List.mem_cons, List.not_mem_nil, or_false]; omega)
  have f46 : w3.1 246 = uf (v.1 246) s (tcx (xn M) y a b) := by rw [e3, wr_ne (by omega), e2, wr_ne (by omega), e1, wr_uf, hs 246 (by decide)]
  have w47 : w2.1 247 = v.1 247 := by rw [e2, wr_ne (by omega), e1, wr_ne (by omega)]; exact hs _ (by decide)
  have f47 : w3.1 247 = uf (v.1 247) (y * 40 + a) (lor (v.1 247 (y * 40 + a)) (lshl 1 b)) := by rw [e3, wr_uf, w47]
  have f48 : w3.1 248 = w.1 248 := by rw [e3, wr_ne (by omega), e2, wr_ne (by omega), e1, wr_ne (by omega)]
  have f49 : w3.1 249 = w.1 249 := by rw [e3, wr_ne (by omega), e2, wr_ne (by omega), e1, wr_ne (by omega)]
  have f32 : w3.1 232 = uf (w.1 232) 7 ((s : Int) + 1) := by rw [e3, wr_ne (by omega), e2, wr_uf, e1, wr_ne (by omega)]
  have f44 : w3.1 244 = v.1 244 := f _ (by omega) (by omega) (by omega) (by omega) (by omega)
  have f45 : w3.1 245 = v.1 245 := f _ (by omega) (by omega) (by omega) (by omega) (by omega)
  have f11 : w3.1 232 11 = v.1 232 11 - 1 := by rw [f32, uf_ne (by decide)]; exact h11
  have w32 : w3.2 = v.2 := by rw [e3, wr_2, e2, wr_2, e1, wr_2]; exact h2
  obtain ⟨hok, hKw⟩ := Kv_add m4 a2 hy ha hb f47
  obtain ⟨hOD, hs16⟩ := OD_add hM hO hy ha hb hnK hKw f46 (by rw [f32, uf_eq]) (fun x o q hk ⟨q1, q2⟩ => by
    have := hN x o q y a b hk r1 hnK
    omega)
  have hKsub : ∀ x o q, Kv M v x o q → Kv M w3 x o q := fun x o q h => (hKw x o q).mpr (Or.inl h)
  have helw : ∀ a', elH (w3.1 248) (w3.1 232 11) a' ↔ elH (v.1 248) (v.1 232 11) a' ∧ a' ≠ tcx (xn M) y a b := fun a' => by rw [f48, f11]; exact he a'
  have e52 : w3.1 252 = v.1 252 := f _ (by omega) (by omega) (by omega) (by omega) (by omega)
  have e50 : w3.1 250 = v.1 250 := f _ (by omega) (by omega) (by omega) (by omega) (by omega)
  have e51 : w3.1 251 = v.1 251 := f _ (by omega) (by omega) (by omega) (by omega) (by omega)
  have ep : ∀ (r' : Int) (d' : Nat) (p' q' : Int), pcx M w3 r' d' p' q' = pcx M v r' d' p' q' := fun r' d' p' q' => by
    show w3.1 252 r' + _ = v.1 252 r' + _
    rw [e52]
  have hrcm : ∀ (r' : Int) (d' : Nat) (p' q' c' g' : Int), iR (xn M) p' → iR (xn M) q' → rc M v r' d' p' q' c' g' → rc M w3 r' d' p' q' c' g' := fun r' d' p' q' c' g' hp' hq' hrc => by
    unfold rc at hrc ⊢
    by_cases hlt : (d' : Int) < xl M r'
    · rw [if_pos hlt] at hrc ⊢
      rw [ep, e50, e51]
      exact hrc
    · rw [if_neg hlt] at hrc ⊢
      rcases hrc with h | ⟨k1, k2⟩
      · exact Or.inl (hKsub _ _ _ h)
      · by_cases e : tcx (xn M) (xh M r') p' q' = tcx (xn M) y a b
        · obtain ⟨z1, z2, z3⟩ := tcx_i hp' hq' ha hb e
          exact Or.inl ((hKw _ _ _).mpr (Or.inr ⟨z1, z2, z3⟩))
        · exact Or.inr ⟨(helw _).mpr ⟨k1, e⟩, by rw [f44, f45]; exact k2⟩
  refine ⟨⟨sA_of a1 w32 (f _ (by omega) (by omega) (by omega) (by omega) (by omega)) (f _ (by omega) (by omega) (by omega) (by omega) (by omega)) (f _ (by omega) (by omega) (by omega) (by omega) (by omega)) (f _ (by omega) (by omega) (by omega) (by omega) (by omega)) (f _ (by omega) (by omega) (by omega) (by omega) (by omega)) (by rw [f32, uf_ne (by decide)]; exact h32 2 (by decide)), hok, by rw [e52]; exact a3, fun x o q hk => ?_, ?_, fun a' ha' => ?_, fun x o q hx ho hq hk => ?_, fun x o q hx ho hq hel' => ?_, fun r p q k0 k1 hp hq d d1 d2 => ?_⟩, fun r d p q hent => ?_, fun r p k0 k1 k2 hp => hrcm r 0 p p 0 0 hp hp (h0 r p k0 k1 k2 hp), hOD, hs16, hKw, r4, fun k1 k2 k3 x o q hk hf hnk => ?_, fun x o q hk => ?_, r5⟩
  · rw [f44, f45]
    rcases (hKw x o q).mp hk with z | ⟨z1, z2, z3⟩
    · exact a4 x o q z
    · rw [z1, z2, z3]
      exact ⟨r1, r2, r3⟩
  · rw [f11]
    obtain ⟨p1, p2, p3, p4⟩ := hP
    have w44 : w.1 244 = v.1 244 := hs _ (by decide)
    have w45 : w.1 245 = v.1 245 := hs _ (by decide)
    refine ⟨p1, p2, fun i i0 i1 => ?_, fun i i0 i1 => ?_⟩
    · rw [f48, f49]
      refine ⟨?_, (p3 i i0 i1).2⟩
      have := (p3 i i0 i1).1
      unfold elO at this ⊢
      rw [f44, f45, ← w44, ← w45]
      exact this
    · rw [f48, ls_of (f44.trans w44.symm) (f45.trans w45.symm)]
      exact p4 i i0 i1
  · obtain ⟨k1, k2⟩ := (helw a').mp ha'
    obtain ⟨x, o, q, g1, g2, g3, g4, g5⟩ := a6 a' k1
    refine ⟨x, o, q, g1, g2, g3, g4, fun hk => ?_⟩
    rcases (hKw x o q).mp hk with z | ⟨z1, z2, z3⟩
    · exact g5 z
    · rw [z1, z2, z3] at g4
      exact k2 g4
  · have hk' : ¬ Kv M v x o q := fun h => hk (hKsub _ _ _ h)
    have hne : tcx (xn M) x o q ≠ tcx (xn M) y a b := fun e => by
      obtain ⟨z1, z2, z3⟩ := tcx_i ho hq ha hb e
      exact hk ((hKw x o q).mpr (Or.inr ⟨z1, z2, z3⟩))
    rcases a7 x o q hx ho hq hk' with z | z
    · have hnel : ¬ elH (v.1 248) (v.1 232 11) (tcx (xn M) x o q) := fun ⟨i, i0, i1, i2⟩ => by
        have := (a5.2.2.1 i i0 i1).2
        rw [i2] at this
        omega
      refine Or.inl ?_
      rw [f49, h49 _ hnel]
      exact z
    · exact Or.inr ((helw _).mpr ⟨z, hne⟩)
  · obtain ⟨k1, -⟩ := (helw _).mp hel'
    obtain ⟨r, g, q0, q1, q2, q3, q4, q5⟩ := a8 x o q hx ho hq k1
    rw [f44, f45]
    exact ⟨r, g, q0, q1, q2, wk_mono hKsub _ _ _ _ q3, q4, q5⟩
  · rw [ep, e50, e51]
    rcases a9 r p q k0 k1 hp hq d d1 d2 with z | ⟨z1, z2⟩
    · exact Or.inl z
    · exact Or.inr ⟨wk_mono hKsub _ _ _ _ z1, z2⟩
  · intro c g hv q' c1 g1 hq' hst hlt
    obtain ⟨k0, k1, k2, hp, hq⟩ := id hent
    refine hrcm r (d + 1) p q' _ _ hp hq' (hC r d p q hent c g ?_ q' c1 g1 hq' hst hlt)
    unfold vl at hv ⊢
    rw [ep, e50, e51] at hv
    exact hv
  · have hnk' : ¬ Kv M v x o q := fun h => hnk (hKsub _ _ _ h)
    rcases (hKw k1 k2 k3).mp hk with z | ⟨z1, z2, z3⟩
    · exact hN k1 k2 k3 x o q z hf hnk'
    · rw [z1, z2, z3]
      exact r5 x o q hf hnk'
  · rcases (hKw x o q).mp hk with z | ⟨z1, z2, z3⟩
    · exact hSm x o q z
    · rw [z1, z2, z3]
      exact r4
