/-! grammar: both read alike -/
theorem rd_congr {f g : Int → Int} {n : Nat} (h : ∀ j : Nat, j < n → f j = g j) : ∀ j : Nat, j ≤ n → rd f j = rd g j := by
  intro j
  induction j with
  | zero => intro _; rfl
  | succ j ih =>
    intro hj
    have h1 := ih (by omega)
    have h2 := h j (by omega)
    simp only [rd]
    rw [h1, h2]
theorem flt_congr {f g : Int → Int} {n j : Nat} (h : ∀ j : Nat, j < n → f j = g j) (hf : flt f n j) : flt g n j := by
  rcases hf with ⟨h1, s, h2, h3, h4⟩ | ⟨h1, s, h2, h3⟩
  · rw [rd_congr h j (by omega)] at h2
    rw [h j h1] at h3 h4
    exact Or.inl ⟨h1, s, h2, h3, h4⟩
  · rw [rd_congr h n (Nat.le_refl n)] at h2
    exact Or.inr ⟨h1, s, h2, h3⟩
theorem gdE_congr {f g : Int → Int} {n : Nat} {s : rS} (h : ∀ j : Nat, j < n → f j = g j) (hf : gdE f n s) : gdE g n s := by
  obtain ⟨h1, h2⟩ := hf
  rw [rd_congr h n (Nat.le_refl n)] at h1
  exact ⟨h1, h2⟩
theorem gdE_eq {f : Int → Int} {n : Nat} {s s' : rS} (h : gdE f n s) (h' : gdE f n s') : s' = s := by
  have := h.1
  rw [h'.1] at this
  exact Option.some.inj this
/-- the other side's answer, whatever is learned -/
theorem q_206 {d n : Nat} {f : Int → Int} {v0 : uS} {Q : Int → uS → Prop} (hn : n ≤ 300) (hr : ∀ j : Nat, j < n → 32 ≤ f j ∧ f j ≤ 126) (h1 : v0.1 271 1 = n) (h2 : v0.1 272 = f) (hF : ∀ (j : Nat) v', flt f n j → Uf v0 v' → (∀ i : Int, i ≠ 1 → i ≠ 4 → i ≠ 12 → i ≠ 13 → i ≠ 19 → v'.1 271 i = v0.1 271 i) → sb1 v0 v' gvL → v'.1 271 1 = 0 → Q (-2 - j) v') (hU : ∀ (s : rS) (p : Int) v', gdE f n s → udf s p → 0 ≤ p → p < n → Uf v0 v' → (∀ i : Int, i ≠ 1 → i ≠ 4 → i ≠ 12 → i ≠ 13 → i ≠ 19 → v'.1 271 i = v0.1 271 i) → sb1 v0 v' gvL → v'.1 271 1 = 0 → Q (-2 - p) v') (hS : ∀ (s : rS) v', gdE f n s → (∀ r d, ¬ ud s r d) → Uf v0 v' → GR v' s → cV (d + 4) 214 [.ref 271] v' (fun u10 => Q (u10.1 271 6) u10)) : cI (d + 5) 206 [.ref 271] v0 Q := by
  have Uf_V : ∀ {v : uS}, Vf v0 v → Uf v0 v := fun {v} h => ⟨fun b hb => h.1 b (fun q => hb (by
    simp only [List.mem_cons, List.not_mem_nil, or_false] at q ⊢
    omega)), h.2.1, fun i a b c d e g k l => h.2.2 i b g k l⟩
  have Uf_w : ∀ {v : uS} {i x : Int}, Uf v0 v → (i = 1 ∨ i = 5 ∨ i = 6 ∨ i = 11) → Uf v0 (wr v 271 i x) := fun {v i x} h hi => ⟨sb1_wr h.1 (by decide), h.2.1, fun k a b c d e g l m => by
    rw [wr_1, if_neg (by omega)]
    exact h.2.2 k a b c d e g l m⟩
  refine e_206 (fun u1 e1 u3 e3 u5 e5 u7 e7 => ?_)
  refine l_206 (d := d) (f := f) (n := n) (v0 := v0) hn hr h1 h2 (fun v' hv' => ?_) (fun v' s hg R => ?_) n 0 (fun _ _ => 0) u7 (by omega) (by omega) rfl rfl (Or.inl rfl) ?_
  · obtain ⟨w1, j, w2, w3⟩ := hv'
    have := flt_le w2
    refine k_206_56 ?_
    rw [w3]
    refine ⟨⟨by omega, by omega⟩, ?_⟩
    rw [if_neg (by omega)]
    intro u14 e14
    have k19 : u14.1 271 19 = j := by rw [e14, wr_1, if_neg (by decide)]; exact w3
    rw [k19]
    refine ⟨⟨by omega, by omega⟩, ?_⟩
    rw [if_neg (by omega)]
    rw [e14]
    refine hF j _ w2 (Uf_w (Uf_V w1) (Or.inl rfl)) (fun i a b c d e => ?_) (sb1_wr w1.1 (by decide)) wr_self
    rw [wr_1, if_neg (by omega)]
    exact w1.2.2 i b c d e
  · have hJ := rd_J n s hg.1
    refine k_206_56 ?_
    rw [R.2.2.1]
    refine ⟨by decide, ?_⟩
    rw [if_pos rfl]
    refine cV.mono (q_213 (d := d + 3) hn hJ R) (Nat.le_refl _) (fun u3' h3 => ?_)
    obtain ⟨⟨n1, n2, n3, n4, n5⟩, h3⟩ := h3
    intro u4 e4
    have k19 : u4.1 271 19 = u3'.1 271 19 := by rw [e4, wr_1, if_neg (by decide)]
    rw [k19]
    rcases h3 with ⟨p, p1, p2, p3, p4⟩ | ⟨p1, p2, p3⟩
    · rw [p1]
      refine ⟨⟨by omega, by omega⟩, ?_⟩
      rw [if_neg (by omega), e4]
      refine hU s p _ hg p4 p2 p3 (Uf_w (Uf_V n1) (Or.inl rfl)) (fun i a b c d e => ?_) (sb1_wr n1.1 (by decide)) wr_self
      rw [wr_1, if_neg (by omega)]
      exact n1.2.2 i b c d e
    · rw [p1]
      refine ⟨by decide, ?_⟩
      rw [if_pos rfl]
      intro u8 e8 u10 e10 u12 e12
      have k12 : u8.1 271 12 = s 0 2 := by rw [e8, wr_1, if_neg (by decide), e4, wr_1, if_neg (by decide)]; exact n2
      have k13 : u10.1 271 13 = s 0 3 := by rw [e10, wr_1, if_neg (by decide), e8, wr_1, if_neg (by decide), e4, wr_1, if_neg (by decide)]; exact n3
      rw [k12] at e10
      rw [k13] at e12
      have kb : ∀ b, b ≠ 271 → u12.1 b = u3'.1 b := fun b hb => by rw [e12, e10, e8, e4, wr_ne hb, wr_ne hb, wr_ne hb, wr_ne hb]
      refine l_206c (v0 := v0) hJ (by rw [e12, e10, e8, e4]; exact Uf_w (Uf_w (Uf_w (Uf_w (Uf_V n1) (Or.inl rfl)) (Or.inr (Or.inr (Or.inr rfl)))) (Or.inr (Or.inl rfl))) (Or.inr (Or.inr (Or.inl rfl)))) ?_ ?_ ?_ ?_ (by rw [kb 278 (by decide)]; exact n4) (by rw [kb 279 (by decide), kb 280 (by decide)]; exact n5) (by rw [kb 281 (by decide)]; exact p3) (fun v' a b => hS s v' hg p2 a b)
      · rw [e12, wr_1, if_neg (by decide), e10, wr_1, if_neg (by decide), e8, wr_1, if_neg (by decide), e4, wr_self]
      · rw [e12, wr_1, if_neg (by decide), e10, wr_self]
      · rw [e12, wr_self]
      · rw [e12, wr_1, if_neg (by decide), e10, wr_1, if_neg (by decide), e8, wr_self]
  · refine ⟨?_, ?_, ?_, ?_, ?_, ⟨fun x x0 x1 => by have x1 : x < 0 := x1; omega, fun r r0 r1 => by have r1 : r < 0 := r1; omega⟩⟩
    · rw [e7, e5, e3, e1]
      exact Vf_wr (Vf_wr (Vf_wr (Vf_wr ⟨sb1_refl _ _, rfl, fun _ _ _ _ _ => rfl⟩ (Or.inl rfl)) (Or.inr (Or.inr (Or.inr rfl)))) (Or.inr (Or.inl rfl))) (Or.inr (Or.inr (Or.inl rfl)))
    · rw [e7, wr_1, if_neg (by decide), e5, wr_1, if_neg (by decide), e3, wr_1, if_neg (by decide), e1, wr_self]
      rfl
    · rw [e7, wr_1, if_neg (by decide), e5, wr_1, if_neg (by decide), e3, wr_self]
    · rw [e7, wr_1, if_neg (by decide), e5, wr_self]
    · rw [e7, wr_self]
/-- a grammar is taken over -/
theorem q_43 {d : Nat} {u : uS} {s : rS} {j : Int} (hJ : JS s j) (hG : GC u s) : cV (d + 1) 43 [.ref 6, .ref 15] u (fun u' => sb1 u u' [6, 7, 8, 9, 10] ∧ u'.2 = u.2 ∧ (∀ i : Int, i ≠ 0 → i ≠ 1 → u'.1 6 i = u.1 6 i) ∧ u'.1 6 0 = s 0 2 ∧ u'.1 6 1 = s 0 3 ∧ (∀ x, 0 ≤ x → x < s 0 2 → u'.1 7 x = s 1 x) ∧ (∀ r, 0 ≤ r → r < s 0 3 → u'.1 8 r = s 2 r ∧ u'.1 9 r = s 3 r ∧ ∀ d, 0 ≤ d → d < s 3 r → fnS s (s 4 (6 * r + d)) (u'.1 10 (r * 6 + d)))) := by
  obtain ⟨a1, a2, a3, a4, a5, a6, a7, a8, a9, a10, a11⟩ := id hJ
  obtain ⟨g1, g2, g3, g4⟩ := hG
  refine e_43 sx_6 sx_15 (fun u1 e1 u3 e3 => ?_)
  rw [g1] at e1
  have k1 : u1.1 15 1 = s 0 3 := by rw [e1, wr_ne (by decide)]; exact g2
  rw [k1] at e3
  have k60 : u3.1 6 0 = s 0 2 := by rw [e3, wr_1, if_neg (by decide), e1, wr_self]
  have k61 : u3.1 6 1 = s 0 3 := by rw [e3, wr_self]
  rw [k60]
  refine ⟨by omega, by omega, fun u7 e7 => ?_⟩
  have e7 : u7 = cpy u3 16 0 7 0 (s 0 2) := e7
  have k71 : u7.1 6 1 = s 0 3 := by rw [e7, cpy_ne (by decide)]; exact k61
  rw [k71]
  refine ⟨by omega, by omega, fun u11 e11 => ?_⟩
  have e11 : u11 = cpy u7 17 0 8 0 (s 0 3) := e11
  have k111 : u11.1 6 1 = s 0 3 := by rw [e11, cpy_ne (by decide)]; exact k71
  rw [k111]
  refine ⟨by omega, by omega, fun u15 e15 => ?_⟩
  have e15 : u15 = cpy u11 18 0 9 0 (s 0 3) := e15
  have k151 : u15.1 6 1 = s 0 3 := by rw [e15, cpy_ne (by decide)]; exact k111
  rw [k151]
  refine ⟨by omega, by omega, fun u19 e19 => ?_⟩
  have e19 : u19 = cpy u15 19 0 10 0 (s 0 3 * 6) := e19
  have kb : ∀ b, b ≠ 6 → b ≠ 7 → b ≠ 8 → b ≠ 9 → b ≠ 10 → u19.1 b = u.1 b := fun b b1 b2 b3 b4 b5 => by rw [e19, cpy_ne b5, e15, cpy_ne b4, e11, cpy_ne b3, e7, cpy_ne b2, e3, wr_ne b1, e1, wr_ne b1]
  have cp : ∀ (w : uS) (p q : Nat) (m i : Int), 0 ≤ i → i < m → (cpy w p 0 q 0 m).1 q i = w.1 p i := fun w p q m i i0 i1 => by
    rw [cpy_1, if_pos ⟨rfl, by omega, by omega⟩, show (0 : Int) + (i - 0) = i by omega]
  refine ⟨fun b hb => ?_, ?_, fun i i0 i1 => ?_, ?_, ?_, fun x x0 x1 => ?_, fun r r0 r1 => ⟨?_, ?_, fun d' d0 d1 => ?_⟩⟩
  · simp only [List.mem_cons, List.not_mem_nil, or_false, not_or] at hb
    exact kb b hb.1 hb.2.1 hb.2.2.1 hb.2.2.2.1 hb.2.2.2.2
  · rw [e19, e15, e11, e7, e3, e1]
    rfl
  · rw [e19, cpy_ne (by decide), e15, cpy_ne (by decide), e11, cpy_ne (by decide), e7, cpy_ne (by decide), e3, wr_1, if_neg (by omega), e1, wr_1, if_neg (by omega)]
  · rw [e19, cpy_ne (by decide), e15, cpy_ne (by decide), e11, cpy_ne (by decide), e7, cpy_ne (by decide)]; exact k60
  · rw [e19, cpy_ne (by decide)]; exact k151
  · rw [e19, cpy_ne (by decide), e15, cpy_ne (by decide), e11, cpy_ne (by decide), e7, cp _ _ _ _ _ x0 x1, e3, wr_ne (by decide), e1, wr_ne (by decide)]
    exact g3 x x0 x1
  · rw [e19, cpy_ne (by decide), e15, cpy_ne (by decide), e11, cp _ _ _ _ _ r0 r1, e7, cpy_ne (by decide), e3, wr_ne (by decide), e1, wr_ne (by decide)]
    exact (g4 r r0 r1).1
  · rw [e19, cpy_ne (by decide), e15, cp _ _ _ _ _ r0 r1, e11, cpy_ne (by decide), e7, cpy_ne (by decide), e3, wr_ne (by decide), e1, wr_ne (by decide)]
    exact (g4 r r0 r1).2.1
  · have := (a10 r r0 r1).2.2.2.1
    rw [e19, cp _ _ _ _ _ (by omega) (by omega), e15, cpy_ne (by decide), e11, cpy_ne (by decide), e7, cpy_ne (by decide), e3, wr_ne (by decide), e1, wr_ne (by decide)]
    exact (g4 r r0 r1).2.2 d' d0 d1
theorem fnS_symR {s : rS} {j x y : Int} (hJ : JS s j) {nv : Nat} (hv : s 0 2 = nv) (hx : syC x) (h : fnS s x y) : symR nv y := by
  unfold symR
  unfold syC at hx
  rcases h with ⟨h1, h2⟩ | ⟨h1, z, h2, h3, h4, h5⟩
  · exact Or.inl (by omega)
  · exact Or.inr (by omega)
theorem rowF_congr {f g : Int → Int} : ∀ (m : Nat) (i : Int), (∀ k : Int, i ≤ k → k < i + m → f k = g k) → rowF f m i = rowF g m i
  | 0, _, _ => rfl
  | m + 1, i, h => by
    simp only [rowF]
    rw [h i (Int.le_refl i) (by omega), rowF_congr m (i + 1) (fun k a b => h k (by omega) (by omega))]
theorem rowF_mem {f : Int → Int} {P : Int → Prop} : ∀ (m : Nat) (i : Int), (∀ k : Int, i ≤ k → k < i + m → P (f k)) → ∀ s ∈ rowF f m i, P s
  | 0, _, _, s, hs => by cases hs
  | m + 1, i, h, s, hs => by
    rcases List.mem_cons.mp hs with e | hs
    · rw [e]; exact h i (Int.le_refl i) (by omega)
    · exact rowF_mem m (i + 1) (fun k a b => h k (by omega) (by omega)) s hs
theorem PF_ext {nv nr : Nat} {hd : Int → Int} {rw : Int → List Int} (hg : gOK nv nr hd rw) {v w : Int → Int} (h : ∀ x, iR nv x → w x = v x) (hv : PF nv nr hd rw v) : PF nv nr hd rw w := ⟨fun x x0 x1 => by rw [h x ⟨x0, x1⟩]; exact hv.1 x x0 x1, fun r r0 r1 => by
  obtain ⟨b1, b2, b3⟩ := hg r r0 r1
  rw [h _ ⟨b1, b2⟩, shS_congr (f := w) (g := v) (rw r) 0 (fun s hs h2 => h _ (gOK_v hg r0 r1 hs h2))]
  exact hv.2 r r0 r1⟩
theorem GF_ext {nv nr : Nat} {hd : Int → Int} {rw : Int → List Int} (hg : gOK nv nr hd rw) {v w : Int → Int} (h : ∀ x, iR nv x → w x = v x) (hv : GF nv nr hd rw v) : GF nv nr hd rw w := ⟨PF_ext hg h hv.1, fun z hz x x0 x1 => by rw [h x ⟨x0, x1⟩]; exact hv.2 z hz x x0 x1⟩
