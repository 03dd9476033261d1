/-! The search: what holds all the time; a triple is offered -/
def tcx (n : Nat) (x o q : Int) : Int := (x * n + o) * n + q
theorem tcx_d {n : Nat} {x o q : Int} (ho : iR n o) (hq : iR n q) : tcx n x o q / n = x * n + o ∧ tcx n x o q % n = q ∧ (x * n + o) / n = x ∧ (x * n + o) % n = o := by
  have o0 := ho.1
  have o1 := ho.2
  have q0 := hq.1
  have q1 := hq.2
  have h1 := (Int.ediv_emod_unique (a := tcx n x o q) (b := (n : Int)) (r := q) (q := x * n + o) (by omega)).mpr ⟨by unfold tcx; rw [Int.mul_comm (n : Int)]; omega, q0, q1⟩
  have h2 := (Int.ediv_emod_unique (a := x * n + o) (b := (n : Int)) (r := o) (q := x) (by omega)).mpr ⟨by rw [Int.mul_comm (n : Int)]; omega, o0, o1⟩
  exact ⟨h1.1, h1.2, h2.1, h2.2⟩
theorem tcx_b {nv n : Nat} {x o q : Int} (hx : iR nv x) (ho : iR n o) (hq : iR n q) : 0 ≤ x * n + o ∧ x * n + o < (nv : Int) * n ∧ 0 ≤ tcx n x o q ∧ tcx n x o q < (nv : Int) * ((n : Int) * n) := by
  have x0 := hx.1
  have x1 := hx.2
  have o0 := ho.1
  have o1 := ho.2
  have q0 := hq.1
  have q1 := hq.2
  have a1 : 0 ≤ x * n := Int.mul_nonneg x0 (by omega)
  have a2 : x * n ≤ ((nv : Int) - 1) * n := Int.mul_le_mul_of_nonneg_right (by omega) (by omega)
  rw [Int.sub_mul, Int.one_mul] at a2
  have a3 : 0 ≤ (x * n + o) * n := Int.mul_nonneg (by omega) (by omega)
  have a4 : (x * n + o) * n ≤ ((nv : Int) * n - 1) * n := Int.mul_le_mul_of_nonneg_right (by omega) (by omega)
  rw [Int.sub_mul, Int.one_mul, Int.mul_assoc (nv : Int)] at a4
  unfold tcx
  exact ⟨by omega, by omega, by omega, by omega⟩
theorem nn_b {nv n : Nat} (hv : nv ≤ 10) (hn : n ≤ 40) : 0 ≤ (n : Int) * n ∧ (n : Int) * n ≤ 1600 ∧ (nv : Int) * ((n : Int) * n) ≤ 16000 ∧ (nv : Int) * n ≤ 400 := by
  have a1 : 0 ≤ (n : Int) * n := Int.mul_nonneg (by omega) (by omega)
  have a2 : (n : Int) * n ≤ 40 * n := Int.mul_le_mul_of_nonneg_right (by omega) (by omega)
  have a3 : (nv : Int) * ((n : Int) * n) ≤ 10 * ((n : Int) * n) := Int.mul_le_mul_of_nonneg_right (by omega) a1
  have a4 : (nv : Int) * n ≤ 10 * n := Int.mul_le_mul_of_nonneg_right (by omega) (by omega)
  exact ⟨a1, by omega, by omega, by omega⟩
theorem tcx_i {n : Nat} {x o q x' o' q' : Int} (ho : iR n o) (hq : iR n q) (ho' : iR n o') (hq' : iR n q') (h : tcx n x o q = tcx n x' o' q') : x = x' ∧ o = o' ∧ q = q' := by
  obtain ⟨a1, a2, a3, a4⟩ := tcx_d (x := x) ho hq
  obtain ⟨b1, b2, b3, b4⟩ := tcx_d (x := x') ho' hq'
  rw [h] at a1 a2
  rw [b1] at a1
  rw [← a1] at a3 a4
  exact ⟨by rw [← a3, b3], by rw [← a4, b4], by rw [← a2, b2]⟩
def sA (v : uS) (M : Mg) (mk : Nat) : Prop := v.2 232 0 = 6 ∧ v.2 232 1 = mk ∧ v.1 6 0 = xv M ∧ v.1 6 1 = xr M ∧ v.1 8 = xh M ∧ v.1 9 = xl M ∧ (∀ r k : Int, v.1 10 (r * 6 + k) = xy M r k) ∧ (∀ o s : Int, v.1 (mk + 1) (o * 10 + s) = xd M o s) ∧ v.1 232 2 = xn M
theorem sA_of {v w : uS} {M : Mg} {mk : Nat} (h : sA v M mk) (h2 : w.2 = v.2) (h6 : w.1 6 = v.1 6) (h8 : w.1 8 = v.1 8) (h9 : w.1 9 = v.1 9) (h10 : w.1 10 = v.1 10) (hm : w.1 (mk + 1) = v.1 (mk + 1)) (h32 : w.1 232 2 = v.1 232 2) : sA w M mk := by
  unfold sA at h ⊢
  rw [h2, h6, h8, h9, h10, hm, h32]
  exact h
abbrev Kv (M : Mg) (v : uS) : P3 := Fg (xv M) (xn M) (v.1 247)
def fOK (M : Mg) (F : Int → Int) : Prop := (∀ r : Int, 0 ≤ r → r < xr M → 0 ≤ F r ∧ F r + max 0 (xl M r - 1) * ((xn M : Int) * xn M) ≤ 240000) ∧ ∀ r r' : Int, 0 ≤ r → r < r' → r' < xr M → F r + max 0 (xl M r - 1) * ((xn M : Int) * xn M) ≤ F r'
abbrev pcx (M : Mg) (v : uS) (r : Int) (d : Nat) (p q : Int) : Int := v.1 252 r + tcx (xn M) ((d : Int) - 1) p q
def sndT (M : Mg) (L H : T3) (K : P3) (x o q c h : Int) : Prop := ∃ r g : Int, 0 ≤ r ∧ r < xr M ∧ xh M r = x ∧ wk M K L H r o (xl M r).toNat q c g ∧ h = g + 1 ∧ c < 4000000000000000000
def RIv (M : Mg) (mk : Nat) (L H : T3) (v : uS) : Prop := sA v M mk ∧ okF (xv M) (xn M) (v.1 247) ∧ fOK M (v.1 252) ∧ (∀ x o q, Kv M v x o q → Fe M L x o q ∧ v.1 244 (tcx (xn M) x o q) = L x o q ∧ v.1 245 (tcx (xn M) x o q) = H x o q) ∧ HP v (v.1 232 11) ∧ (∀ a, elH (v.1 248) (v.1 232 11) a → ∃ x o q, iR (xv M) x ∧ iR (xn M) o ∧ iR (xn M) q ∧ a = tcx (xn M) x o q ∧ ¬ Kv M v x o q) ∧ (∀ x o q, iR (xv M) x → iR (xn M) o → iR (xn M) q → ¬ Kv M v x o q → v.1 249 (tcx (xn M) x o q) = 0 ∨ elH (v.1 248) (v.1 232 11) (tcx (xn M) x o q)) ∧ (∀ x o q, iR (xv M) x → iR (xn M) o → iR (xn M) q → elH (v.1 248) (v.1 232 11) (tcx (xn M) x o q) → sndT M L H (Kv M v) x o q (v.1 244 (tcx (xn M) x o q)) (v.1 245 (tcx (xn M) x o q))) ∧ (∀ r p q : Int, 0 ≤ r → r < xr M → iR (xn M) p → iR (xn M) q → ∀ d : Nat, 1 ≤ d → (d : Int) < xl M r → v.1 250 (pcx M v r d p q) = 9000000000000000000 ∨ (wk M (Kv M v) L H r p d q (v.1 250 (pcx M v r d p q)) (v.1 251 (pcx M v r d p q)) ∧ v.1 250 (pcx M v r d p q) < 4000000000000000000))
/-- a heap without t has room -/
theorem HP_room {v : uS} {hc t : Int} (h : HP v hc) (t0 : 0 ≤ t) (t1 : t < 16000) (hn : ¬ elH (v.1 248) hc t) : hc < 16000 := by
  obtain ⟨h1, h2, h3, h4⟩ := id h
  have cnt : ∀ k : Nat, (k : Int) ≤ hc → ct (fun a => decide (1 ≤ v.1 249 (a : Int) ∧ v.1 249 (a : Int) ≤ k ∧ v.1 248 (v.1 249 (a : Int) - 1) = a)) 16000 = k := by
    intro k
    induction k with
    | zero =>
      intro _
      exact ct_zero 16000 (fun i _ => decide_eq_false (by omega))
    | succ k ih =>
      intro hk
      obtain ⟨⟨a0, a1, -⟩, a2⟩ := h3 k (by omega) (by omega)
      have := ct_upd (p := fun a => decide (1 ≤ v.1 249 (a : Int) ∧ v.1 249 (a : Int) ≤ k ∧ v.1 248 (v.1 249 (a : Int) - 1) = a)) (p' := fun a => decide (1 ≤ v.1 249 (a : Int) ∧ v.1 249 (a : Int) ≤ ((k + 1 : Nat) : Int) ∧ v.1 248 (v.1 249 (a : Int) - 1) = a)) (j := (v.1 248 k).toNat) 16000 (by omega) (fun i hi hne => by
        have : (1 ≤ v.1 249 (i : Int) ∧ v.1 249 (i : Int) ≤ ((k + 1 : Nat) : Int) ∧ v.1 248 (v.1 249 (i : Int) - 1) = i) ↔ (1 ≤ v.1 249 (i : Int) ∧ v.1 249 (i : Int) ≤ k ∧ v.1 248 (v.1 249 (i : Int) - 1) = i) := by
          constructor
          · rintro ⟨b1, b2, b3⟩
            refine ⟨b1, ?_, b3⟩
            by_cases e : v.1 249 (i : Int) = (k : Int) + 1
            · rw [e, show (k : Int) + 1 - 1 = k by omega] at b3
              omega
            · omega
          · rintro ⟨b1, b2, b3⟩
            exact ⟨b1, by omega, b3⟩
        show decide _ = decide _
        exact decide_eq_decide.mpr this) (by
        have e : (((v.1 248 (k : Int)).toNat : Nat) : Int) = v.1 248 k := by omega
        show decide _ = false
        rw [e, a2]
        exact decide_eq_false (by omega)) (by
        have e : (((v.1 248 (k : Int)).toNat : Nat) : Int) = v.1 248 k := by omega
        show decide _ = true
        rw [e, a2]
        exact decide_eq_true ⟨by omega, by omega, by rw [show (k : Int) + 1 - 1 = k by omega]⟩)
      rw [this, ih (by omega)]
  by_cases hlt : hc < 16000
  · exact hlt
  · have e := cnt 16000 (by omega)
    have := ct_full 16000 (by rw [e]; exact Nat.le_refl _) t.toNat (by omega)
    rw [show ((t.toNat : Nat) : Int) = t by omega] at this
    obtain ⟨b1, b2, b3⟩ := of_decide_eq_true this
    exact absurd ⟨v.1 249 t - 1, by omega, by omega, b3⟩ hn
/-- the state behind an offer -/
def OF (v w : uS) (t : Int) : Prop := w.2 = v.2 ∧ sb1 v w [232, 244, 245, 248, 249] ∧ (∀ i : Int, i ≠ 11 → w.1 232 i = v.1 232 i) ∧ (∀ a, a ≠ t → w.1 244 a = v.1 244 a ∧ w.1 245 a = v.1 245 a) ∧ ∀ a, elH (v.1 248) (v.1 232 11) a → elH (w.1 248) (w.1 232 11) a
theorem RIv_new {M : Mg} {mk : Nat} {L H : T3} {v w : uS} {x o q c h : Int} (hmk : mk = 59 ∨ mk = 61) (hM : Mok M) (hR : RIv M mk L H v) (hx : iR (xv M) x) (ho : iR (xn M) o) (hq : iR (xn M) q) (hk : ¬ Kv M v x o q) (hw : sndT M L H (Kv M v) x o q c h) (hO : OF v w (tcx (xn M) x o q)) (hP : HP w (w.1 232 11)) (hc : w.1 244 (tcx (xn M) x o q) = c) (hh : w.1 245 (tcx (xn M) x o q) = h) (he : ∀ a, elH (w.1 248) (w.1 232 11) a ↔ elH (v.1 248) (v.1 232 11) a ∨ a = tcx (xn M) x o q) (hs : ∀ a, ¬ elH (w.1 248) (w.1 232 11) a → w.1 249 a = v.1 249 a) : RIv M mk L H w := by
  obtain ⟨r1, r2, r3, r4, r5, r6, r7, r8, r9⟩ := hR
  obtain ⟨o1, o2, o3, o4, o5⟩ := hO
  have f : ∀ b, b < 232 ∨ 249 < b ∨ b = 247 → w.1 b = v.1 b := fun b hb => o2 b (by simp only [List.mem_cons, List.not_mem_nil, or_false]; omega)
  have f47 : w.1 247 = v.1 247 := f _ (by omega)
  have f52 : w.1 252 = v.1 252 := f _ (by omega)
  have f50 : w.1 250 = v.1 250 := f _ (by omega)
  have f51 : w.1 251 = v.1 251 := f _ (by omega)
  have eK : Kv M w = Kv M v := by
    show Fg (xv M) (xn M) (w.1 247) = Fg (xv M) (xn M) (v.1 247)
    rw [f47]
  refine ⟨sA_of r1 o1 (f _ (by omega)) (f _ (by omega)) (f _ (by omega)) (f _ (by omega)) (f _ (by omega)) (o3 2 (by decide)), by rw [f47]; exact r2, by rw [f52]; exact r3, fun x' o' q' hK => ?_, hP, fun a ha => ?_, fun x' o' q' hx' ho' hq' hK => ?_, fun x' o' q' hx' ho' hq' hel => ?_, fun r p b r0 r1' hp hb d d1 d2 => ?_⟩
  · rw [eK] at hK
    obtain ⟨a1, a2, a3⟩ := r4 x' o' q' hK
    have hne : tcx (xn M) x' o' q' ≠ tcx (xn M) x o q := fun e => by
      obtain ⟨e1, e2, e3⟩ := tcx_i hK.2.1 hK.2.2.1 ho hq e
      rw [e1, e2, e3] at hK
      exact hk hK
    rw [(o4 _ hne).1, (o4 _ hne).2]
    exact ⟨a1, a2, a3⟩
  · rw [eK]
    rcases (he a).mp ha with h' | h'
    · exact r6 a h'
    · exact ⟨x, o, q, hx, ho, hq, h', hk⟩
  · rw [eK] at hK
    by_cases hel : elH (w.1 248) (w.1 232 11) (tcx (xn M) x' o' q')
    · exact Or.inr hel
    · refine Or.inl ?_
      rw [hs _ hel]
      rcases r7 x' o' q' hx' ho' hq' hK with z | z
      · exact z
      · exact absurd (o5 _ z) hel
  · rw [eK]
    by_cases e : tcx (xn M) x' o' q' = tcx (xn M) x o q
    · obtain ⟨e1, e2, e3⟩ := tcx_i ho' hq' ho hq e
      rw [e1, e2, e3, hc, hh]
      exact hw
    · rw [(o4 _ e).1, (o4 _ e).2]
      rcases (he _).mp hel with h' | h'
      · exact r8 x' o' q' hx' ho' hq' h'
      · exact absurd h' e
  · rw [eK]
    have ep : pcx M w r d p b = pcx M v r d p b := by
      show w.1 252 r + _ = v.1 252 r + _
      rw [f52]
    rw [ep, f50, f51]
    exact r9 r p b r0 r1' hp hb d d1 d2
theorem q_148 {d mk : Nat} {v : uS} {M : Mg} {L H : T3} {x o q c h : Int} (hmk : mk = 59 ∨ mk = 61) (hM : Mok M) (hS : LHs M L H) (hR : RIv M mk L H v) (hx : iR (xv M) x) (ho : iR (xn M) o) (hq : iR (xn M) q) (hw : sndT M L H (Kv M v) x o q c h) : cV (d + 4) 148 [.ref 232, iV (tcx (xn M) x o q), lV c, iV h] v (fun w => RIv M mk L H w ∧ OF v w (tcx (xn M) x o q) ∧ (Kv M v x o q → w = v) ∧ (¬ Kv M v x o q → elH (w.1 248) (w.1 232 11) (tcx (xn M) x o q) ∧ (w.1 244 (tcx (xn M) x o q) < c ∨ w.1 244 (tcx (xn M) x o q) = c ∧ w.1 245 (tcx (xn M) x o q) ≤ h) ∧ (elH (v.1 248) (v.1 232 11) (tcx (xn M) x o q) → w.1 244 (tcx (xn M) x o q) < v.1 244 (tcx (xn M) x o q) ∨ w.1 244 (tcx (xn M) x o q) = v.1 244 (tcx (xn M) x o q) ∧ w.1 245 (tcx (xn M) x o q) ≤ v.1 245 (tcx (xn M) x o q)))) := by
  obtain ⟨m1, m2, m3, m4, m5, m6⟩ := id hM
  obtain ⟨r1, r2, r3, r4, r5, r6, r7, r8, r9⟩ := id hR
  obtain ⟨s1, s2, s3, s4, s5, s6, s7, s8, s9⟩ := id r1
  obtain ⟨nb1, nb2, nb3, nb4⟩ := nn_b m1 m4
  obtain ⟨b1, b2, b3, b4⟩ := tcx_b hx ho hq
  obtain ⟨d1, d2, d3, d4⟩ := tcx_d (x := x) ho hq
  have x0 := hx.1
  have x1 := hx.2
  have o0 := ho.1
  have o1 := ho.2
  have q0 := hq.1
  have q1 := hq.2
  generalize ht : tcx (xn M) x o q = t at *
  have hwc : 0 ≤ c ∧ c < 4000000000000000000 ∧ 1 ≤ h ∧ h ≤ 16001 := by
    obtain ⟨r, g, -, -, -, hw1, hg, hc⟩ := hw
    have := wk_b hS (fun x o q hK => (r4 x o q hK).1) _ _ _ _ hw1
    omega
  have hbit : (land (lushr (v.1 247 (x * 40 + o)) q) 1 = 0) ↔ ¬ Kv M v x o q := by
    rw [bit_l q0 (by omega)]
    constructor
    · intro h hK
      rw [if_pos hK.2.2.2] at h
      exact absurd h (by decide)
    · intro hK
      rw [if_neg (fun hb => hK ⟨hx, ho, hq, hb⟩)]
  have elT : ∀ w : uS, w.1 244 t = c → w.1 245 t = h → elO w t := fun w e1 e2 => ⟨b3, by omega, by rw [e1]; exact ⟨by omega, by omega⟩, by rw [e2]; exact ⟨by omega, by omega⟩⟩
  refine e_148 ⟨⟨by omega, by omega⟩, ?_⟩
  rw [s9, Int.tdiv_eq_ediv_of_nonneg b3, Int.tmod_eq_emod_of_nonneg b3, d1, d2, Int.tdiv_eq_ediv_of_nonneg b1, Int.tmod_eq_emod_of_nonneg b1, d3, d4]
  refine ⟨⟨by omega, by omega⟩, by omega, ⟨by omega, by omega⟩, by omega, by omega, ?_⟩
  by_cases hK : Kv M v x o q
  · rw [if_neg (fun e => hbit.mp e hK)]
    exact ⟨hR, ⟨rfl, sb1_refl _ _, fun _ _ => rfl, fun _ _ => ⟨rfl, rfl⟩, fun _ h => h⟩, fun _ => rfl, fun h => absurd hK h⟩
  · rw [if_pos (hbit.mpr hK)]
    generalize hhc : v.1 232 11 = hc at *
    obtain ⟨p1, p2, p3, p4⟩ := id r5
    have h49 : v.1 249 t = 0 ∨ ∃ i : Int, 0 ≤ i ∧ i < hc ∧ v.1 248 i = t ∧ v.1 249 t = i + 1 := by
      have := r7 x o q hx ho hq hK
      rw [ht] at this
      rcases this with z | ⟨i, i0, i1, i2⟩
      · exact Or.inl z
      · have := (p3 i i0 i1).2
        rw [i2] at this
        exact Or.inr ⟨i, i0, i1, i2, this⟩
    refine ⟨b3, by omega, by rcases h49 with z | ⟨i, i0, i1, i2, i3⟩ <;> exact ⟨by omega, by omega⟩, ?_⟩
    rcases h49 with hz | ⟨i, i0, i1, i2, i3⟩
    · -- new in the heap
      rw [if_pos (by omega)]
      have hnel : ¬ elH (v.1 248) hc t := fun ⟨j, j0, j1, j2⟩ => by
        have := (p3 j j0 j1).2
        rw [j2] at this
        omega
      have hroom := HP_room r5 b3 (by omega) hnel
      intro v1 e1 v2 e2 v3 e3
      have f48 : v3.1 248 = v.1 248 := by rw [e3, wr_ne (by omega), e2, wr_ne (by omega), e1, wr_ne (by omega)]
      have f49 : v3.1 249 = v.1 249 := by rw [e3, wr_ne (by omega), e2, wr_ne (by omega), e1, wr_ne (by omega)]
      have f44 : v3.1 244 = uf (v.1 244) t c := by rw [e3, wr_ne (by omega), e2, wr_uf, e1, wr_ne (by omega)]
      have f45 : v3.1 245 = uf (v.1 245) t h := by rw [e3, wr_uf, e2, wr_ne (by omega), e1, wr_ne (by omega)]
      have f32 : v3.1 232 = uf (v.1 232) 11 (hc + 1) := by rw [e3, wr_ne (by omega), e2, wr_ne (by omega), e1, wr_uf]
      have lsame : ∀ a b : Int, a ≠ t → b ≠ t → (ls v3 a b ↔ ls v a b) := fun a b ha hb => by
        unfold ls
        rw [f44, f45, uf_ne ha, uf_ne hb, uf_ne ha, uf_ne hb]
      have hne : ∀ j : Int, 0 ≤ j → j < hc → v.1 248 j ≠ t := fun j j0 j1 e => hnel ⟨j, j0, j1, e⟩
      have hA : ∀ j : Int, 0 ≤ j → j < hc → uf (v3.1 248) hc t j = v.1 248 j := fun j j0 j1 => by rw [uf_ne (by omega), f48]
      have hHH : HH v3 (hc + 1) hc t := by
        refine ⟨p1, by omega, by omega, fun j j0 j1 => ?_, fun j k j0 j1 k0 k1 hjk => ?_, fun j j0 j1 hj => ?_⟩
        · by_cases e : j = hc
          · rw [e, uf_eq]
            exact elT v3 (by rw [f44, uf_eq]) (by rw [f45, uf_eq])
          · rw [hA j j0 (by omega)]
            unfold elO
            rw [f44, f45, uf_ne (hne j j0 (by omega)), uf_ne (hne j j0 (by omega))]
            exact (p3 j j0 (by omega)).1
        · by_cases ej : j = hc <;> by_cases ek : k = hc
          · omega
          · rw [ej, uf_eq, hA k k0 (by omega)] at hjk
            exact absurd hjk.symm (hne k k0 (by omega))
          · rw [ek, uf_eq, hA j j0 (by omega)] at hjk
            exact absurd hjk (hne j j0 (by omega))
          · rw [hA j j0 (by omega), hA k k0 (by omega)] at hjk
            exact HP_inj r5 j0 (by omega) k0 (by omega) hjk
        · rw [hA j j0 (by omega), f49]
          exact (p3 j j0 (by omega)).2
      refine cV.mono (q_152 (d := d) hHH (fun j j0 j1 hj => ?_) (fun hp j j0 j1 hpj => by omega)) (Nat.le_refl _) (fun w ⟨w1, w2, w3, w4, w5⟩ => ?_)
      · have hp := par_lt j0
        rw [hA j (by omega) (by omega), hA _ hp.1 (by omega), lsame _ _ (hne j (by omega) (by omega)) (hne _ hp.1 (by omega))]
        exact p4 j j0 (by omega)
      · have w32 : w.1 232 = uf (v.1 232) 11 (hc + 1) := (w3 _ (by decide)).trans f32
        have w11 : w.1 232 11 = hc + 1 := by rw [w32, uf_eq]
        have w44 : w.1 244 = uf (v.1 244) t c := (w3 _ (by decide)).trans f44
        have w45 : w.1 245 = uf (v.1 245) t h := (w3 _ (by decide)).trans f45
        have hel : ∀ a, elH (w.1 248) (w.1 232 11) a ↔ elH (v.1 248) hc a ∨ a = t := fun a => by
          rw [w11, w4 a]
          constructor
          · rintro ⟨j, j0, j1, j2⟩
            by_cases e : j = hc
            · rw [e, uf_eq] at j2
              exact Or.inr j2.symm
            · rw [hA j j0 (by omega)] at j2
              exact Or.inl ⟨j, j0, by omega, j2⟩
          · rintro (⟨j, j0, j1, j2⟩ | e)
            · exact ⟨j, j0, by omega, by rw [hA j j0 j1]; exact j2⟩
            · exact ⟨hc, p1, by omega, by rw [uf_eq, e]⟩
        have hOF : OF v w t := by
          refine ⟨?_, fun b hb => ?_, fun j hj => by rw [w32, uf_ne hj], fun a ha => ⟨by rw [w44, uf_ne ha], by rw [w45, uf_ne ha]⟩, fun a ha => ?_⟩
          · rw [w2, e3, wr_2, e2, wr_2, e1, wr_2]
          · simp only [List.mem_cons, List.not_mem_nil, or_false, not_or] at hb
            rw [w3 b (by simp only [List.mem_cons, List.not_mem_nil, or_false]; omega), e3, wr_ne (by omega), e2, wr_ne (by omega), e1, wr_ne (by omega)]
          · rw [hhc] at ha
            exact (hel a).mpr (Or.inl ha)
        rw [← ht] at hOF
        refine ⟨RIv_new hmk hM hR hx ho hq hK hw hOF (by rw [w11]; exact w1) (by rw [ht, w44, uf_eq]) (by rw [ht, w45, uf_eq]) (by rw [ht, hhc]; exact hel) (fun a ha => ?_), by rw [← ht]; exact hOF, fun e => absurd e hK, fun _ => ⟨(hel t).mpr (Or.inr rfl), Or.inr ⟨by rw [w44, uf_eq], by rw [w45, uf_eq]; exact Int.le_refl _⟩, fun e => absurd e hnel⟩⟩
        rw [w5 a (fun e => ha (by rw [w11, w4 a]; exact e)), f49]
    · -- it is there
      rw [if_neg (by omega)]
      have hel0 : elH (v.1 248) hc t := ⟨i, i0, i1, i2⟩
      obtain ⟨⟨-, -, el3, el4⟩, -⟩ := p3 i i0 i1
      rw [i2] at el3 el4
      refine ⟨⟨by omega, by omega⟩, el3, ?_⟩
      have stay : (v.1 244 t < c ∨ v.1 244 t = c ∧ v.1 245 t ≤ h) → RIv M mk L H v ∧ OF v v t ∧ (Kv M v x o q → v = v) ∧ (¬ Kv M v x o q → elH (v.1 248) hc t ∧ (v.1 244 t < c ∨ v.1 244 t = c ∧ v.1 245 t ≤ h) ∧ (elH (v.1 248) hc t → v.1 244 t < v.1 244 t ∨ v.1 244 t = v.1 244 t ∧ v.1 245 t ≤ v.1 245 t)) := fun hle => ⟨hR, ⟨rfl, sb1_refl _ _, fun _ _ => rfl, fun _ _ => ⟨rfl, rfl⟩, fun _ h => h⟩, fun _ => rfl, fun _ => ⟨hel0, hle, fun _ => Or.inr ⟨rfl, Int.le_refl _⟩⟩⟩
      have less : (c < v.1 244 t ∨ c = v.1 244 t ∧ h < v.1 245 t) → ∀ v1 : uS, v1 = wr v 244 t c → ∀ v2 : uS, v2 = wr v1 245 t h → cV (d + 3) 152 [.ref 232, iV t, iV (v.1 249 t - 1)] v2 (fun w => RIv M mk L H w ∧ OF v w t ∧ (Kv M v x o q → w = v) ∧ (¬ Kv M v x o q → elH (w.1 248) (w.1 232 11) t ∧ (w.1 244 t < c ∨ w.1 244 t = c ∧ w.1 245 t ≤ h) ∧ (elH (v.1 248) hc t → w.1 244 t < v.1 244 t ∨ w.1 244 t = v.1 244 t ∧ w.1 245 t ≤ v.1 245 t))) := by
        intro hlt v1 e1 v2 e2
        rw [show v.1 249 t - 1 = i by omega]
        have f48 : v2.1 248 = v.1 248 := by rw [e2, wr_ne (by omega), e1, wr_ne (by omega)]
        have f49 : v2.1 249 = v.1 249 := by rw [e2, wr_ne (by omega), e1, wr_ne (by omega)]
        have f44 : v2.1 244 = uf (v.1 244) t c := by rw [e2, wr_ne (by omega), e1, wr_uf]
        have f45 : v2.1 245 = uf (v.1 245) t h := by rw [e2, wr_uf, e1, wr_ne (by omega)]
        have f32 : v2.1 232 = v.1 232 := by rw [e2, wr_ne (by omega), e1, wr_ne (by omega)]
        have hA : uf (v2.1 248) i t = v.1 248 := by
          funext j
          rw [f48]
          by_cases e : j = i
          · rw [e, uf_eq, i2]
          · rw [uf_ne e]
        have lsame : ∀ a b : Int, a ≠ t → b ≠ t → (ls v2 a b ↔ ls v a b) := fun a b ha hb => by
          unfold ls
          rw [f44, f45, uf_ne ha, uf_ne hb, uf_ne ha, uf_ne hb]
        have lt2 : ∀ a : Int, a ≠ t → ¬ ls v a t → ¬ ls v2 a t := fun a ha hn hl => hn (by
          unfold ls at hl ⊢
          rw [f44, f45, uf_ne ha, uf_ne ha, uf_eq, uf_eq] at hl
          omega)
        have hne : ∀ j : Int, 0 ≤ j → j < hc → j ≠ i → v.1 248 j ≠ t := fun j j0 j1 e e' => e (HP_inj r5 j0 j1 i0 i1 (by rw [e', i2]))
        have hHH : HH v2 hc i t := by
          refine ⟨i0, i1, p2, fun j j0 j1 => ?_, fun j k j0 j1 k0 k1 hjk => ?_, fun j j0 j1 hj => ?_⟩
          · rw [hA]
            by_cases e : j = i
            · rw [e, i2]
              exact elT v2 (by rw [f44, uf_eq]) (by rw [f45, uf_eq])
            · unfold elO
              rw [f44, f45, uf_ne (hne j j0 j1 e), uf_ne (hne j j0 j1 e)]
              exact (p3 j j0 j1).1
          · rw [hA] at hjk
            exact HP_inj r5 j0 j1 k0 k1 hjk
          · rw [hA, f49]
            exact (p3 j j0 j1).2
        refine cV.mono (q_152 (d := d) hHH (fun j j0 j1 hj => ?_) (fun hp j j0 j1 hpj => ?_)) (Nat.le_refl _) (fun w ⟨w1, w2, w3, w4, w5⟩ => ?_)
        · have hp := par_lt j0
          rw [hA]
          by_cases e : (j - 1) / 2 = i
          · rw [e, i2]
            refine lt2 _ (hne j (by omega) j1 hj) ?_
            have := p4 j j0 j1
            rw [e, i2] at this
            exact this
          · rw [lsame _ _ (hne j (by omega) j1 hj) (hne _ hp.1 (by omega) e)]
            exact p4 j j0 j1
        · have hp' := par_lt hp
          rw [hA, lsame _ _ (hne j (by omega) j1 (by omega)) (hne _ hp'.1 (by omega) (by omega))]
          have a1 := p4 j j0 j1
          rw [hpj] at a1
          exact ls_nt a1 (p4 i hp i1)
        · have w32 : w.1 232 = v.1 232 := (w3 _ (by decide)).trans f32
          have w44 : w.1 244 = uf (v.1 244) t c := (w3 _ (by decide)).trans f44
          have w45 : w.1 245 = uf (v.1 245) t h := (w3 _ (by decide)).trans f45
          have w11 : w.1 232 11 = hc := by rw [w32]; exact hhc
          have hel : ∀ a, elH (w.1 248) (w.1 232 11) a ↔ elH (v.1 248) hc a := fun a => by rw [w11, w4 a, hA]
          have hOF : OF v w t := by
            refine ⟨by rw [w2, e2, wr_2, e1, wr_2], fun b hb => ?_, fun j hj => by rw [w32], fun a ha => ⟨by rw [w44, uf_ne ha], by rw [w45, uf_ne ha]⟩, fun a ha => by rw [hhc] at ha; exact (hel a).mpr ha⟩
            simp only [List.mem_cons, List.not_mem_nil, or_false, not_or] at hb
            rw [w3 b (by simp only [List.mem_cons, List.not_mem_nil, or_false]; omega), e2, wr_ne (by omega), e1, wr_ne (by omega)]
          rw [← ht] at hOF
          refine ⟨RIv_new hmk hM hR hx ho hq hK hw hOF (by rw [w11]; exact w1) (by rw [ht, w44, uf_eq]) (by rw [ht, w45, uf_eq]) (fun a => ?_) (fun a ha => ?_), by rw [← ht]; exact hOF, fun e => absurd e hK, fun _ => ⟨(hel t).mpr hel0, Or.inr ⟨by rw [w44, uf_eq], by rw [w45, uf_eq]; exact Int.le_refl _⟩, fun _ => ?_⟩⟩
          · rw [hel a, ht, hhc]
            exact ⟨fun e => Or.inl e, fun e => by rcases e with e | e; exact e; rw [e]; exact hel0⟩
          · rw [w5 a (fun e => ha (by rw [w11, w4 a]; exact e)), f49]
          · rw [w44, w45, uf_eq, uf_eq]
            omega
      by_cases c1 : v.1 244 t < c
      · rw [if_pos c1]
        exact stay (Or.inl c1)
      · rw [if_neg c1]
        by_cases c2 : c = v.1 244 t
        · rw [if_pos c2]
          refine ⟨⟨by omega, by omega⟩, el4, ?_⟩
          by_cases c3 : h < v.1 245 t
          · rw [if_pos c3]
            exact less (Or.inr ⟨c2, c3⟩)
          · rw [if_neg c3]
            exact stay (Or.inr ⟨c2.symm, by omega⟩)
        · rw [if_neg c2]
          exact less (Or.inl (by omega))
