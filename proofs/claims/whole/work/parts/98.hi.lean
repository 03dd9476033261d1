/-! meets: alike -/
theorem GM_inv {u : uS} (hG : invG u) (hM : invM u) {w : Int} (w0 : 0 ≤ w) (w1 : w < 2) : ∃ nv nr n : Nat, GMc u nv nr n (59 + 2 * w.toNat) ∧ RGc u nv nr n w ∧ sideE u nr n (59 + 2 * w.toNat) w ∧ u.1 271 11 = (if nr = 0 then 0 else 1) ∧ (∀ s : Int, 0 ≤ s → s < n → u.1 303 (40 * w + s) = b2 (bt (u.1 (59 + 2 * w.toNat) 1) s.toNat)) := by
  obtain ⟨nv, nr, a1, a2, a3, a4, a5, a6, a7, a8, a9⟩ := hG
  obtain ⟨n, n1, n2, m1, m2, m3, m4⟩ := invM_at hM w0 w1
  have ex : ((w.toNat : Nat) : Int) = w := by omega
  rw [ex] at m2 m3 m4
  refine ⟨nv, nr, n, ⟨a1, a2, a3, a5, fun r r0 r1 => ?_, n1, n2, m1, fun s c hs c0 c1 => ?_⟩, ⟨a1, a2, a6, fun r r0 r1 => ?_, n1, n2, m2, by omega, fun s c hs c0 c1 => ?_⟩, ⟨fun r r0 r1 => ?_, fun s c hs c0 c1 => (m3 s c hs.1 hs.2 c0 c1).1⟩, a7, m4⟩
  · obtain ⟨b1, b2, b3, b4, b5, b6, b7⟩ := a9 r r0 r1
    exact ⟨⟨b3, b4⟩, b5, b6, fun k k0 k1 => (b7 k k0 k1).2⟩
  · exact (m3 s c hs.1 hs.2 c0 c1).2
  · obtain ⟨b1, b2, b3, b4, b5, b6, b7⟩ := a9 r r0 r1
    rw [b1, b2]
    refine ⟨⟨b3, b4⟩, b5, b6, fun k k0 k1 => ?_⟩
    rw [(b7 k k0 k1).1]
    exact (b7 k k0 k1).2
  · have := m3 s c hs.1 hs.2 c0 c1
    rw [this.1]
    exact this.2
  · obtain ⟨b1, b2, b3, b4, b5, b6, b7⟩ := a9 r r0 r1
    exact ⟨b1, b2, fun k k0 k1 => (b7 k k0 k1).1⟩
/-- what a product keeps -/
def prd (u : uS) (w : Nat) : Prop := (u.1 (193 + 19 * w) 0 = 0 ∨ u.1 (193 + 19 * w) 0 = 1) ∧ (u.1 (193 + 19 * w) 0 = 1 → ∀ nv nr n : Nat, u.1 6 0 = nv → u.1 6 1 = nr → u.1 (59 + 2 * w) 0 = n → ferP u (193 + 19 * w) (59 + 2 * w) nv nr n ∧ u.2 (193 + 19 * w) 2 = 6 ∧ u.2 (193 + 19 * w) 3 = 59 + 2 * w)
def invP (u : uS) : Prop := prd u 0 ∧ prd u 1
theorem invP_at {u : uS} (h : invP u) {x : Int} (h0 : 0 ≤ x) (h2 : x < 2) : prd u x.toNat := by
  by_cases e : x = 0
  · rw [e]; exact h.1
  · have e : x = 1 := by omega
    rw [e]; exact h.2
theorem ferP_of {u u' : uS} {a mk nv nr n : Nat} (h : ferP u a mk nv nr n) (ha : u'.1 (a + 1) = u.1 (a + 1)) (h8 : u'.1 8 = u.1 8) (h9 : u'.1 9 = u.1 9) (h10 : u'.1 10 = u.1 10) (hm : u'.1 (mk + 1) = u.1 (mk + 1)) : ferP u' a mk nv nr n := by
  unfold ferP clS dlt lrw at h ⊢
  rw [ha, h8, h9, h10, hm]
  exact h
theorem prd_of {u u' : uS} {w : Nat} (h : prd u w) (h0 : u'.1 (193 + 19 * w) 0 = u.1 (193 + 19 * w) 0) (ha : u'.1 (193 + 19 * w + 1) = u.1 (193 + 19 * w + 1)) (h6 : u'.1 6 0 = u.1 6 0) (h61 : u'.1 6 1 = u.1 6 1) (h8 : u'.1 8 = u.1 8) (h9 : u'.1 9 = u.1 9) (h10 : u'.1 10 = u.1 10) (hm : u'.1 (59 + 2 * w) 0 = u.1 (59 + 2 * w) 0) (hm1 : u'.1 (59 + 2 * w + 1) = u.1 (59 + 2 * w + 1)) (hr : u'.2 (193 + 19 * w) = u.2 (193 + 19 * w)) : prd u' w := by
  refine ⟨by rw [h0]; exact h.1, fun k nv nr n e1 e2 e3 => ?_⟩
  rw [h0] at k
  rw [h6] at e1
  rw [h61] at e2
  rw [hm] at e3
  obtain ⟨f1, f2, f3⟩ := h.2 k nv nr n e1 e2 e3
  exact ⟨ferP_of f1 ha h8 h9 h10 hm1, by rw [hr]; exact f2, by rw [hr]; exact f3⟩
/-- what the products and the tables of triples change -/
def pdP : Nat → Int → Prop := fun b j => (b = 193 ∧ j = 0) ∨ b = 194 ∨ b = 206 ∨ (b = 212 ∧ j = 0) ∨ b = 213 ∨ b = 225 ∨ b ∈ fT
/-- both sides look at their triples -/
theorem both_fer {d : Nat} {u : uS} {w : Int} {Q : uS → Prop} (hG : invG u) (hM : invM u) (hP : invP u) (w0 : 0 ≤ w) (w1 : w < 2) (hQ : ∀ u1 : uS, (∀ nv nr n : Nat, GMc u1 nv nr n (59 + 2 * w.toNat) → RGc u1 nv nr n w → sideE u1 nr n (59 + 2 * w.toNat) w → (∀ s : Int, 0 ≤ s → s < n → u1.1 303 (40 * w + s) = b2 (bt (u1.1 (59 + 2 * w.toNat) 1) s.toNat)) → u1.1 (59 + 2 * w.toNat) = u.1 (59 + 2 * w.toNat) → u1.1 6 = u.1 6 → ferP u1 (193 + 19 * w.toNat) (59 + 2 * w.toNat) nv nr n → u1.2 (193 + 19 * w.toNat) 2 = 6 → u1.2 (193 + 19 * w.toNat) 3 = 59 + 2 * w.toNat → u1.1 271 11 = u.1 271 11 → invG u1 → invM u1 → invP u1 → fr1 pdP u u1 → (∀ b, b ≠ 193 + 19 * w.toNat → u1.2 b = u.2 b) → Q u1)) : cV (d + 8) 139 [.ref (193 + 19 * w.toNat), .ref 6, .ref (59 + 2 * w.toNat)] u Q := by
  obtain ⟨nv, nr, n, k1, k2, k3, k4, k5⟩ := GM_inv hG hM w0 w1
  obtain ⟨p1, p2⟩ := invP_at hP w0 w1
  have hw : w.toNat = 0 ∨ w.toNat = 1 := by omega
  generalize hwn : w.toNat = wn at *
  have hO : isO (193 + 19 * wn) 9 := by rcases hw with z | z <;> rw [z] <;> first | exact sx_193 | exact sx_212
  have hMO : isO (59 + 2 * wn) 5 := by rcases hw with z | z <;> rw [z] <;> first | exact sx_59 | exact sx_61
  refine cV.mono (q_139 (d := d) (a := 193 + 19 * wn) (mk := 59 + 2 * wn) (by omega) (by omega) hO hMO k1 p1 (fun h => p2 h nv nr n k1.2.2.1 k1.2.2.2.1 (by obtain ⟨-, -, -, -, -, -, -, z, -⟩ := k1; exact z))) (Nat.le_refl _) (fun u1 h1 => ?_)
  obtain ⟨s1, s2, s3, s4, s5, s6, s7, s8⟩ := h1
  have e6 : u1.1 6 = u.1 6 := s1 _ (by simp; omega)
  have e7 : u1.1 7 = u.1 7 := s1 _ (by simp; omega)
  have e8 : u1.1 8 = u.1 8 := s1 _ (by simp; omega)
  have e9 : u1.1 9 = u.1 9 := s1 _ (by simp; omega)
  have e10 : u1.1 10 = u.1 10 := s1 _ (by simp; omega)
  have e59 : u1.1 59 = u.1 59 := s1 _ (by simp; omega)
  have e60 : u1.1 60 = u.1 60 := s1 _ (by simp; omega)
  have e61 : u1.1 61 = u.1 61 := s1 _ (by simp; omega)
  have e62 : u1.1 62 = u.1 62 := s1 _ (by simp; omega)
  have e271 : u1.1 271 = u.1 271 := s1 _ (by simp; omega)
  have e274 : u1.1 274 = u.1 274 := s1 _ (by simp; omega)
  have e275 : u1.1 275 = u.1 275 := s1 _ (by simp; omega)
  have e276 : u1.1 276 = u.1 276 := s1 _ (by simp; omega)
  have e277 : u1.1 277 = u.1 277 := s1 _ (by simp; omega)
  have e301 : u1.1 301 = u.1 301 := s1 _ (by simp; omega)
  have e302 : u1.1 302 = u.1 302 := s1 _ (by simp; omega)
  have e303 : u1.1 303 = u.1 303 := s1 _ (by simp; omega)
  have em : u1.1 (59 + 2 * wn) = u.1 (59 + 2 * wn) := s1 _ (by simp; omega)
  have em1 : u1.1 (59 + 2 * wn + 1) = u.1 (59 + 2 * wn + 1) := s1 _ (by simp; omega)
  have hG1 : invG u1 := by unfold invG at hG ⊢; rw [e6, e7, e8, e9, e10, e271, e274, e275, e276, e277]; exact hG
  have hM1 : invM u1 := by
    have q1 : u1.1 (59 + 2 * 0) = u.1 (59 + 2 * 0) := e59
    have q2 : u1.1 (59 + 2 * 0 + 1) = u.1 (59 + 2 * 0 + 1) := e60
    have q3 : u1.1 (59 + 2 * 1) = u.1 (59 + 2 * 1) := e61
    have q4 : u1.1 (59 + 2 * 1 + 1) = u.1 (59 + 2 * 1 + 1) := e62
    unfold invM mEq at hM ⊢
    rw [q1, q2, q3, q4, e301, e302, e303]
    exact hM
  refine hQ u1 nv nr n (GMc_of k1 (by rw [e6]) (by rw [e6]) e8 e9 e10 (by rw [em]) em1) (RGc_of k2 (by rw [e271]) e275 e276 e277 e301 e302) ?_ (by rw [e303, em]; exact k5) em e6 s6 s7 s8 (by rw [e271]) hG1 hM1 ?_ (fun b j hb => ?_) s3
  · unfold sideE at k3 ⊢
    rw [e275, e276, e277, e8, e9, e10, e302, em1]
    exact k3
  · have mine : prd u1 wn := by
      refine ⟨Or.inr s5, fun _ nv' nr' n' f1 f2 f3 => ?_⟩
      have z1 := k1.2.2.1
      have z2 := k1.2.2.2.1
      obtain ⟨-, -, -, -, -, -, -, z3, -⟩ := k1
      rw [e6, z1] at f1
      rw [e6, z2] at f2
      rw [em, z3] at f3
      have y1 : nv' = nv := by omega
      have y2 : nr' = nr := by omega
      have y3 : n' = n := by omega
      rw [y1, y2, y3]
      exact ⟨s6, s7, s8⟩
    have other : ∀ wo, (wo = 0 ∨ wo = 1) → wo ≠ wn → prd u wo → prd u1 wo := fun wo ho hne hp => by
      refine prd_of hp ?_ (s1 _ (by simp; omega)) (by rw [e6]) (by rw [e6]) e8 e9 e10 ?_ (s1 _ (by simp; omega)) (s3 _ (by omega))
      · rw [s1 (193 + 19 * wo) (by simp; omega)]
      · rw [s1 (59 + 2 * wo) (by simp; omega)]
    rcases hw with z | z
    · rw [z] at mine other
      exact ⟨mine, other 1 (Or.inr rfl) (by omega) hP.2⟩
    · rw [z] at mine other
      exact ⟨other 0 (Or.inl rfl) (by omega) hP.1, mine⟩
  · by_cases h0 : b = 193 + 19 * wn ∧ j ≠ 0
    · rw [h0.1]; exact s2 j h0.2
    · refine congrFun (s1 b (fun k => hb ?_)) j
      simp only [List.mem_cons, List.not_mem_nil, or_false] at k
      unfold pdP
      by_cases hj : j = 0
      · rcases hw with z | z <;> rw [z] at k <;> omega
      · rcases hw with z | z <;> rw [z] at k h0 <;> omega
theorem land_ne {x y : Int} (h : land x y ≠ 0) : ∃ i : Nat, i < 64 ∧ bt x i = true ∧ bt y i = true := by
  refine Classical.byContradiction (fun hn => h (bt_ext (rl_land x y) ⟨by omega, by omega⟩ (fun i hi => ?_)))
  rw [bt_land, bt_0]
  cases hx : bt x i with
  | false => rfl
  | true =>
    cases hy : bt y i with
    | false => rfl
    | true => exact absurd ⟨i, hi, hx, hy⟩ hn
theorem land_z {x y : Int} (h : land x y = 0) (i : Nat) (h1 : bt x i = true) (h2 : bt y i = true) : False := by
  have := bt_land x y i
  rw [h, bt_0, h1, h2] at this
  cases this
/-- behind both sides' work everything else is as it was -/
theorem after_T {u u1 u2 : uS} (h1 : fr1 pdP u u1) (hs : sb1 u1 u2 fT) : fr1 pdP u u2 := fun b j hb => by
  rw [hs b (fun k => hb (by unfold pdP; exact Or.inr (Or.inr (Or.inr (Or.inr (Or.inr (Or.inr k)))))))]
  exact h1 b j hb
theorem invP_T {u1 u2 : uS} (h : invP u1) (h2 : u2.2 = u1.2) (hs : sb1 u1 u2 fT) : invP u2 := by
  have f : ∀ wo, (wo = 0 ∨ wo = 1) → prd u1 wo → prd u2 wo := fun wo ho hp => by
    have nin : ∀ b, b < 320 → b ∉ fT := fun b hb => by unfold fT; simp; omega
    refine prd_of hp (by rw [hs _ (nin _ (by omega))]) (hs _ (nin _ (by omega))) (by rw [hs 6 (nin _ (by omega))]) (by rw [hs 6 (nin _ (by omega))]) (hs _ (nin _ (by omega))) (hs _ (nin _ (by omega))) (hs _ (nin _ (by omega))) (by rw [hs _ (nin _ (by omega))]) (hs _ (nin _ (by omega))) (by rw [h2])
  exact ⟨f 0 (Or.inl rfl) h.1, f 1 (Or.inr rfl) h.2⟩
theorem st_meets {d : Nat} {u : uS} {x y : Int} (hx : rI x) (hy : rI y) (hG : invG u) (hM : invM u) (hP : invP u) : cI (d + 10) 199 [.ref 0, iV x, iV y] u (fun r u1 => cI (d + 10) 290 [.ref 271, iV x, iV y] u1 (fun r' u2 => r' = r ∧ invP u2 ∧ fr1 pdP u u2 ∧ (∀ b, b ≠ 193 → b ≠ 212 → u2.2 b = u.2 b))) := by
  obtain ⟨nv, nr, b1, b2', b3, b4, b5, b6, b7, b8, b9⟩ := id hG
  have bad : (nr = 0 ∨ x < 0 ∨ 1 < x ∨ y < 0 ∨ 1 < y) → cI (d + 10) 290 [.ref 271, iV x, iV y] u (fun r' u2 => r' = -1 ∧ invP u2 ∧ fr1 pdP u u2 ∧ (∀ b, b ≠ 193 → b ≠ 212 → u2.2 b = u.2 b)) := by
    intro hb
    refine e_290 (d := d + 8) ?_
    rw [b7]
    refine ⟨by split <;> decide, ?_⟩
    by_cases h0 : nr = 0
    · rw [if_pos h0, if_pos rfl]
      exact ⟨rfl, hP, fun _ _ _ => rfl, fun _ _ _ => rfl⟩
    · rw [if_neg h0, if_neg (by decide)]
      refine ⟨hx, ?_⟩
      split
      · exact ⟨rfl, hP, fun _ _ _ => rfl, fun _ _ _ => rfl⟩
      · split
        · exact ⟨rfl, hP, fun _ _ _ => rfl, fun _ _ _ => rfl⟩
        · refine ⟨hy, ?_⟩
          split
          · exact ⟨rfl, hP, fun _ _ _ => rfl, fun _ _ _ => rfl⟩
          · split
            · exact ⟨rfl, hP, fun _ _ _ => rfl, fun _ _ _ => rfl⟩
            · omega
  refine e_199 (d := d + 8) ?_
  rw [b5]
  refine ⟨⟨by omega, by omega⟩, ?_⟩
  by_cases h0 : nr = 0
  · rw [if_neg (by omega)]
    exact bad (Or.inl h0)
  · rw [if_pos (by omega)]
    refine ⟨hx, ?_⟩
    by_cases hx0 : x < 0
    · rw [if_pos hx0]; exact bad (by omega)
    · rw [if_neg hx0]
      by_cases hx2 : x < 2
      · rw [if_pos hx2]
        refine ⟨hy, ?_⟩
        by_cases hy0 : y < 0
        · rw [if_pos hy0]; exact bad (by omega)
        · rw [if_neg hy0]
          by_cases hy1 : 1 < y
          · rw [if_pos hy1]; exact bad (by omega)
          · rw [if_neg hy1]
            -- both look at the start's row
            have main : ∀ (M : Int), (∀ i : Nat, i < 64 → bt M i = (if y = 0 then bt (u.1 (59 + 2 * x.toNat) 1) i else ! bt (u.1 (59 + 2 * x.toNat) 1) i)) → cL (d + 9) 138 [.ref 0, iV x] u (fun r u1 => if land r M = 0 then cI (d + 10) 290 [.ref 271, iV x, iV y] u1 (fun r' u2 => r' = 0 ∧ invP u2 ∧ fr1 pdP u u2 ∧ (∀ b, b ≠ 193 → b ≠ 212 → u2.2 b = u.2 b)) else cI (d + 10) 290 [.ref 271, iV x, iV y] u1 (fun r' u2 => r' = 1 ∧ invP u2 ∧ fr1 pdP u u2 ∧ (∀ b, b ≠ 193 → b ≠ 212 → u2.2 b = u.2 b))) := by
              intro M hMb
              refine e_138 (d := d + 8) ⟨by omega, hx2, ?_⟩
              refine both_fer (d := d) hG hM hP (by omega) hx2 (fun u1 nv' nr' n k1 k2 k3 k4 k5 k6 k7 k8 k9 k10 k11 k12 k13 k14 k15 => ?_)
              obtain ⟨g1, g2, g3, g4, g5, g6, g7, g8, g9⟩ := id k1
              have hnr : nr' = nr := by rw [k6, b5] at g4; omega
              have hv1 : 1 ≤ nv' := by
                obtain ⟨q1, q2⟩ := (g5 0 (Int.le_refl 0) (by omega)).1
                omega
              have hz : iR nv' 0 := ⟨by omega, by omega⟩
              have hzn : iR n 0 := ⟨by omega, by omega⟩
              have hrow := stB_F k7.1 hz hzn
              have ref : ∀ a : Int, (∀ w : uS, FT u1 w nv' nr' n x → (a = 1 ↔ ∃ q : Int, iR n q ∧ w.1 324 (tix 0 0 q) ≠ 6000000000000000000 ∧ (if y = 0 then bt (u.1 (59 + 2 * x.toNat) 1) q.toNat = true else bt (u.1 (59 + 2 * x.toNat) 1) q.toNat = false))) → (a = 0 ∨ a = 1) → cI (d + 10) 290 [.ref 271, iV x, iV y] u1 (fun r' u2 => r' = a ∧ invP u2 ∧ fr1 pdP u u2 ∧ (∀ b, b ≠ 193 → b ≠ 212 → u2.2 b = u.2 b)) := by
                intro a ha ha01
                refine e_290 (d := d + 8) ?_
                rw [k10, b7, if_neg h0]
                refine ⟨by decide, ?_⟩
                rw [if_neg (by decide)]
                refine ⟨hx, ?_⟩
                rw [if_neg hx0, if_neg (by omega)]
                refine ⟨hy, ?_⟩
                rw [if_neg hy0, if_neg hy1]
                refine cV.mono (q_269 (d := d + 3) k2) (Nat.le_refl _) (fun w ⟨w2, ws, wF⟩ => ?_)
                have h := ha w wF
                have fin : ∀ r' : Int, r' = a → r' = a ∧ invP w ∧ fr1 pdP u w ∧ (∀ b, b ≠ 193 → b ≠ 212 → w.2 b = u.2 b) := fun r' e => ⟨e, invP_T k13 w2 ws, after_T k14 ws, fun b q1 q2 => by rw [w2]; exact k15 b (by omega)⟩
                have w01 : w.1 301 x = n := by rw [ws 301 (by decide)]; exact k2.2.2.2.2.2.2.1
                have w03 : ∀ q : Int, 0 ≤ q → q < n → w.1 303 (40 * x + q) = b2 (bt (u.1 (59 + 2 * x.toNat) 1) q.toNat) := fun q q0 q1 => by
                  rw [ws 303 (by decide), k4 q q0 q1, k5]
                have loop : ∀ (k : Nat) (q : Int), 0 ≤ q → q + k = n → (∀ q' : Int, 0 ≤ q' → q' < q → ¬ (w.1 324 (tix 0 0 q') ≠ 6000000000000000000 ∧ (if y = 0 then bt (u.1 (59 + 2 * x.toNat) 1) q'.toNat = true else bt (u.1 (59 + 2 * x.toNat) 1) q'.toNat = false))) → K_290 (d + 9) 36 [.ref 271, iV x, iV y, iV q] [] w (fun r' u2 => r' = a ∧ invP u2 ∧ fr1 pdP u u2 ∧ (∀ b, b ≠ 193 → b ≠ 212 → u2.2 b = u.2 b)) := by
                  intro k
                  induction k with
                  | zero =>
                    intro q q0 qe hno
                    refine k_290_36 (d := d + 8) ⟨by omega, by omega, ⟨by omega, by omega⟩, ?_⟩
                    rw [w01]
                    refine ⟨⟨by omega, by omega⟩, ?_⟩
                    rw [if_neg (by omega)]
                    refine fin 0 ?_
                    rcases ha01 with z | z
                    · exact z.symm
                    · obtain ⟨q', z1, z2⟩ := h.mp z
                      exact absurd z2 (hno q' z1.1 (by have := z1.2; omega))
                  | succ k ih =>
                    intro q q0 qe hno
                    refine k_290_36 (d := d + 8) ⟨by omega, by omega, ⟨by omega, by omega⟩, ?_⟩
                    rw [w01]
                    refine ⟨⟨by omega, by omega⟩, ?_⟩
                    rw [if_pos (by omega)]
                    rw [show (10 * 0 + 0) * 40 + q = tix 0 0 q from rfl]
                    have ht := tix_R (o := 0) (x := 0) (q := q) ⟨by omega, by omega⟩ ⟨by omega, by omega⟩ ⟨q0, by omega⟩
                    refine ⟨ht.1, ht.2, lR_L (wF.1 _ ht.1 ht.2).1, ?_⟩
                    have miss : ¬ (w.1 324 (tix 0 0 q) ≠ 6000000000000000000 ∧ (if y = 0 then bt (u.1 (59 + 2 * x.toNat) 1) q.toNat = true else bt (u.1 (59 + 2 * x.toNat) 1) q.toNat = false)) → K_290 (d + 9) 36 [.ref 271, iV x, iV y, iV (q + 1)] [] w (fun r' u2 => r' = a ∧ invP u2 ∧ fr1 pdP u u2 ∧ (∀ b, b ≠ 193 → b ≠ 212 → u2.2 b = u.2 b)) := by
                      intro hm
                      refine ih (q + 1) (by omega) (by omega) (fun q' z0 z1 => ?_)
                      by_cases e : q' = q
                      · rw [e]; exact hm
                      · exact hno q' z0 (by omega)
                    have hit : (w.1 324 (tix 0 0 q) ≠ 6000000000000000000 ∧ (if y = 0 then bt (u.1 (59 + 2 * x.toNat) 1) q.toNat = true else bt (u.1 (59 + 2 * x.toNat) 1) q.toNat = false)) → (1 : Int) = a ∧ invP w ∧ fr1 pdP u w ∧ (∀ b, b ≠ 193 → b ≠ 212 → w.2 b = u.2 b) := fun hm => fin 1 (h.mpr ⟨q, ⟨q0, by omega⟩, hm⟩).symm
                    by_cases hf : w.1 324 (tix 0 0 q) = 6000000000000000000
                    · rw [if_pos hf]
                      exact miss (fun z => z.1 hf)
                    · rw [if_neg hf]
                      refine ⟨by omega, by omega, hy, ?_⟩
                      rw [w03 q q0 (by omega)]
                      have hb2 : rI (b2 (bt (u.1 (59 + 2 * x.toNat) 1) q.toNat)) := by rcases b2_r (bt (u.1 (59 + 2 * x.toNat) 1) q.toNat) with z | z <;> rw [z] <;> decide
                      by_cases hy2 : y = 0
                      · rw [if_pos hy2]
                        rw [if_pos hy2] at miss hit
                        refine ⟨hb2, ?_⟩
                        cases hbt : bt (u.1 (59 + 2 * x.toNat) 1) q.toNat with
                        | true =>
                          rw [if_pos (by decide)]
                          exact hit ⟨hf, hbt⟩
                        | false =>
                          rw [if_neg (by decide)]
                          exact miss (fun z => by rw [hbt] at z; exact absurd z.2 (by decide))
                      · rw [if_neg hy2]
                        rw [if_neg hy2] at miss hit
                        refine ⟨hb2, ?_⟩
                        cases hbt : bt (u.1 (59 + 2 * x.toNat) 1) q.toNat with
                        | false =>
                          rw [if_pos (by decide)]
                          exact hit ⟨hf, hbt⟩
                        | true =>
                          rw [if_neg (by decide)]
                          exact miss (fun z => by rw [hbt] at z; exact absurd z.2 (by decide))
                exact loop n 0 (Int.le_refl 0) (by omega) (fun q' z0 z1 => by omega)
              have hidx : (0 : Int) * 40 + 0 = 0 := by omega
              rw [hidx] at hrow
              by_cases hl : land (u1.1 (193 + 19 * x.toNat + 1) 0) M = 0
              · rw [if_pos hl]
                refine ref 0 (fun w wF => ⟨fun z => absurd z (by decide), ?_⟩) (Or.inl rfl)
                rintro ⟨q, hq, z1, z2⟩
                have hf := (fer_iff k1 k3 k7 wF 0 0 q hz hzn hq).mpr z1
                have eq : ((q.toNat : Nat) : Int) = q := by have := hq.1; omega
                have hb := (hrow.2 q.toNat).mpr (by rw [eq]; exact ⟨hq.2, hf⟩)
                refine (land_z hl q.toNat hb ?_).elim
                have hq2 := hq.2
                rw [hMb q.toNat (by omega)]
                by_cases hy2 : y = 0
                · rw [if_pos hy2] at z2 ⊢; exact z2
                · rw [if_neg hy2] at z2 ⊢; rw [z2]; rfl
              · rw [if_neg hl]
                refine ref 1 (fun w wF => ⟨fun _ => ?_, fun _ => rfl⟩) (Or.inr rfl)
                obtain ⟨i, i1, i2, i3⟩ := land_ne hl
                obtain ⟨i4, i5⟩ := (hrow.2 i).mp i2
                have hiR : iR n (i : Int) := ⟨by omega, i4⟩
                have hf := (fer_iff k1 k3 k7 wF 0 0 i hz hzn hiR).mp i5
                have ei : ((i : Int)).toNat = i := by omega
                refine ⟨i, hiR, hf, ?_⟩
                rw [ei]
                rw [hMb i i1] at i3
                by_cases hy2 : y = 0
                · rw [if_pos hy2] at i3 ⊢; exact i3
                · rw [if_neg hy2] at i3 ⊢
                  cases hbt : bt (u.1 (59 + 2 * x.toNat) 1) i with
                  | false => rfl
                  | true => rw [hbt] at i3; cases i3
            by_cases hy2 : y = 0
            · rw [if_pos hy2]
              refine cL.mono (main (u.1 (59 + 2 * x.toNat) 1) (fun i _ => by rw [if_pos hy2])) (Nat.le_refl _) (fun r u1 h => ?_)
              exact h
            · rw [if_neg hy2]
              refine cL.mono (main (lxor (u.1 (59 + 2 * x.toNat) 1) (-1)) (fun i hi => by rw [if_neg hy2, bt_lxor, bt_m1 hi]; cases bt (u.1 (59 + 2 * x.toNat) 1) i <;> rfl)) (Nat.le_refl _) (fun r u1 h => ?_)
              exact h
      · rw [if_neg hx2]; exact bad (by omega)
