/-! The other side's five ways -/
def RFm (M : Int) (u u' : uS) : Prop := u'.2 = u.2 ∧ (∀ (b : Nat) (j : Int), b ∉ [304, 305, 306, 307, 308, 309, 310, 311, 312, 313] → (b = 301 → j ≠ M) → (b = 302 → ¬ (400 * M ≤ j ∧ j < 400 * M + 400)) → (b = 303 → ¬ (40 * M ≤ j ∧ j < 40 * M + 40)) → (b = 271 → j ≠ 42 ∧ j ≠ 43 ∧ j ≠ 44) → u'.1 b j = u.1 b j) ∧ (B3 u → B3 u')
def RK (k : Int) (A B : Ma) (M : Nat) (u : uS) (r : Int) (u' : uS) : Prop := r = (M : Nat) ∧ RFm M u u' ∧ u'.1 271 42 = (M : Int) + 1 ∧ ((u'.1 271 43 = 0 ∧ ∃ m : Ma, MKm 1 k A B m ∧ okM m ∧ rMa u' M m) ∨ (u'.1 271 43 = 1 ∧ MKg 1 k A B))
theorem NF_RF {M : Int} {u v w x : uS} (h : GFm u v) (hw : w = wr v 271 42 (M + 1)) (h' : NF M w x) : RFm M u x := by
  refine ⟨h'.1.trans (by rw [hw, wr_2]; exact h.1), fun b j hb h1 h2 h3 h4 => ?_, fun hB => h'.2.2 (fun j => by rw [hw, wr_ne (by decide), GF_row h (by decide)]; exact hB j)⟩
  simp only [List.mem_cons, List.not_mem_nil, or_false, not_or] at hb
  rw [h'.2.1 b j (by simp only [List.mem_cons, List.not_mem_nil, or_false, not_or]; omega) h1 h2 h3 (fun e => (h4 e).2.1), hw, wr_1, if_neg (fun e => (h4 e.1).1 e.2)]
  exact h.2 b j (by simp only [List.mem_cons, List.not_mem_nil, or_false, not_or]; omega) (fun e => (h4 e).2)
set_option maxRecDepth 4000 in
theorem fin_R {d M : Nat} {k : Int} {A B : Ma} {u v u34 : uS} (hM : M < 100) (h42 : u.1 271 42 = M) (h : GRm k A B u v) (e34 : u34 = wr v 271 42 (v.1 271 42 + 1)) : cV (d + 3) 249 [.ref 271, iV (u34.1 271 42 - 1)] u34 (fun u36 => RK k A B M u (u34.1 271 42 - 1) u36) := by
  obtain ⟨g0, h⟩ := h
  have v42 : v.1 271 42 = M := by rw [g0.2 271 42 (by decide) (fun _ => ⟨by decide, by decide⟩)]; exact h42
  rw [v42] at e34
  have k42 : u34.1 271 42 = (M : Int) + 1 := by rw [e34, wr_self]
  rw [k42, show (M : Int) + 1 - 1 = M by omega]
  have k43 : u34.1 271 43 = v.1 271 43 := by rw [e34, wr_1, if_neg (by decide)]
  have k44 : u34.1 271 44 = v.1 271 44 := by rw [e34, wr_1, if_neg (by decide)]
  rcases h with ⟨z, i, hE, hR, hX, hL⟩ | ⟨z, i, hB⟩
  · have hp1 : 1 ≤ (pG 1 k A B i).1 := plG_pos i
    have hi : i = 10 * (pG 1 k A B i).1 := hE.2
    have hEV : EV u34 (pG 1 k A B i).1 (pG 1 k A B i).2.2.2 := by
      refine ⟨hp1, hR.1, by rw [k44]; exact hR.2.1, fun j hj => ⟨by rw [e34, wr_ne (by decide)]; exact hX j (by omega), ?_⟩⟩
      obtain ⟨q, q1, q2, -⟩ := plL_x hE.1 (j := j) (by omega)
      have q2 : (pG 1 k A B i).2.2.2 j = q := q2
      have q1 : q < (pG 1 k A B i).1 := q1
      omega
    refine (q_249 (d := d) (gd := pGd 1 k A B i) (by omega) (by omega) hEV (by rw [k43]; exact z) (fun p hp => ?_)).mono (Nat.le_refl _) (fun u36 h36 => ?_)
    · rw [e34, wr_ne (by decide), hL p hp]
      unfold pGd
      rw [decide_eq_true hp, Bool.true_and]
    · obtain ⟨n1, n2⟩ := h36
      refine ⟨rfl, NF_RF g0 e34 n1, ?_, ?_⟩
      · rw [n1.2.1 271 42 (by decide) (fun e => absurd e (by decide)) (fun e => absurd e (by decide)) (fun e => absurd e (by decide)) (fun _ => by decide)]
        exact k42
      · rcases n2 with ⟨a1, a2⟩ | ⟨a1, a2, j, j1, j2, j3⟩
        · exact Or.inr ⟨a1, Or.inr ⟨i, hE, a2⟩⟩
        · exact Or.inl ⟨a1, _, ⟨i, j, hE, a2, j1, rfl⟩, j2, j3⟩
  · refine e_249 ⟨⟨by omega, by omega⟩, ?_⟩
    rw [if_neg (by omega)]
    refine ⟨rfl, ⟨by rw [e34, wr_2]; exact g0.1, fun b j hb h1 h2 h3 h4 => ?_, fun hB j => by rw [e34, wr_ne (by decide), GF_row g0 (by decide)]; exact hB j⟩, k42, Or.inr ⟨by rw [k43]; exact z, Or.inl ⟨i, hB⟩⟩⟩
    simp only [List.mem_cons, List.not_mem_nil, or_false, not_or] at hb
    rw [e34, wr_1, if_neg (fun e => (h4 e.1).1 e.2)]
    exact g0.2 b j (by simp only [List.mem_cons, List.not_mem_nil, or_false, not_or]; omega) (fun e => (h4 e).2)
/-- the first place -/
theorem start_R {d : Nat} {u u1 : uS} {x y : Int} (hx : rI x) (hy : rL y) (h1 : RP u1 0 (fun _ => 0) (fun _ => 0)) (h2 : GFm u u1) (h3 : u1.1 271 43 = 0) {Q : uS → Prop} (H : ∀ v0 : uS, GFm u v0 → RP v0 1 (fun _ => x) (fun _ => y) → v0.1 271 43 = 0 → Q v0) : cI (d + 1) 246 [.ref 271, iV x, lV y] u1 (fun _ v0 => Q v0) := by
  have h1' : RP u1 0 (fun _ => x) (fun _ => y) := by
    obtain ⟨a, b, c, e, f⟩ := h1
    exact ⟨a, b, fun q hq => absurd hq (Nat.not_lt_zero q), ⟨e.1, fun q hq => absurd hq (Nat.not_lt_zero q), e.2.2⟩, fun p q _ hq => absurd hq (Nat.not_lt_zero q)⟩
  refine (p_246 (d := d) h1' hx hy).mono (Nat.le_refl _) (fun r u7 h7 => ?_)
  rcases h7 with ⟨g1, g2, g3, g4⟩ | ⟨g1, g2, g3, g4⟩
  · omega
  · have e0 : fdk (fun _ => x) (fun _ => y) x y 0 = 0 := rfl
    rw [e0] at g3
    have : max 0 (0 + 1) = 1 := rfl
    rw [this, uf_same rfl, uf_same rfl] at g3
    exact H u7 (GF_trans h2 (RPf_GF g4)) g3 (by rw [g4.2 271 43 (by decide) (fun _ => by decide)]; exact h3)
theorem begin_R {d : Nat} {u : uS} (h43 : u.1 271 43 = 0) {Q : uS → Prop} (H : ∀ u1 : uS, RP u1 0 (fun _ => 0) (fun _ => 0) → GFm u u1 → u1.1 271 43 = 0 → Q u1) : cV (d + 1) 245 [.ref 271] u Q := by
  refine p_245.mono (Nat.le_refl _) (fun u1 h => ?_)
  refine H u1 h.1 ⟨h.2.1, fun b j hb hj => ?_⟩ ?_
  · simp only [List.mem_cons, List.not_mem_nil, or_false, not_or] at hb
    exact h.2.2 b j (by omega) (fun e => (hj e).2)
  · rw [h.2.2 271 43 (by decide) (fun _ => by decide)]
    exact h43
theorem lst_R {u : uS} {l s : Int} {m : Ma} (hu : rMa u l m) (hs : iR m.1 s) : u.1 303 (40 * l + s) = b2 (m.2.2 s.toNat) := hu.2.2 s hs
set_option maxRecDepth 4000 in
theorem q_257 {d M l1 l2 : Nat} {k : Int} {A B : Ma} {u : uS} (hk : k = 0 ∨ k = 1) (hl1 : l1 < 100) (hl2 : l2 < 100) (hM : M < 100) (h42 : u.1 271 42 = M) (h43 : u.1 271 43 = 0) (hA : okM A) (hB : okM B) (mA : rMa u l1 A) (mB : rMa u l2 B) : cI (d + 4) 257 [.ref 271, iV (l1 : Nat), iV (l2 : Nat), iV k] u (RK k A B M u) := by
  have a40 := hA.2.1
  have b40 := hB.2.1
  have e1 : st1 k = 0 := by unfold st1; rw [if_neg (by omega)]
  have e2 : st2 1 k A = 0 := by unfold st2; rw [if_neg (by omega), if_neg (by omega), if_neg (by omega)]
  have hkk : ∀ a b : Int, okK k A B a b ↔ iR A.1 a ∧ iR B.1 b := fun a b => by unfold okK; rw [if_pos hk]
  have hgo : ∀ a b c : Int, goK 1 k A B a b c = (A.2.1 a c, B.2.1 b c) := fun a b c => by unfold goK; rw [if_pos hk]
  refine e_257 (d := d + 2) (begin_R h43 (fun u1 r1 g1 z1 => start_R ⟨by omega, by omega⟩ ⟨by omega, by omega⟩ r1 g1 z1 (fun v0 g0 r0 z0 => ?_)))
  refine gat_R (k := k) (A := A) (B := B) (u := u) (KR := fun p v => K_257 (d + 3) 14 [.ref 271, iV (l1 : Nat), iV (l2 : Nat), iV k, iV (p : Nat), .retAddr 0, .retAddr 0, .retAddr 0, .retAddr 0, .retAddr 0] [] v (RK k A B M u)) (KL := fun p a b c v => K_257 (d + 3) 124 [.ref 271, iV (l1 : Nat), iV (l2 : Nat), iV k, iV (p : Nat), iV a, iV b, .retAddr 0, .retAddr 0, iV (c : Nat)] [] v (RK k A B M u)) hA hB ?_ ?_ ?_ ?_ g0 (by rw [e1, e2]; exact r0) z0
  · intro p c n f g a b v gv rv hp hc hok H
    have mA' := rMa_GF mA hA gv
    have mB' := rMa_GF mB hB gv
    obtain ⟨ra, rb⟩ := (hkk a b).mp hok
    have ra1 := ra.1
    have ra2 := ra.2
    have rb1 := rb.1
    have rb2 := rb.2
    have sa := hA.2.2.1 a c ra (by omega) (by omega)
    have sb := hB.2.2.1 b c rb (by omega) (by omega)
    have sa1 := sa.1
    have sa2 := sa.2
    have sb1 := sb.1
    have sb2 := sb.2
    have n2 := rv.1
    refine k_257_124 ⟨⟨by omega, by omega⟩, ?_⟩
    rw [if_pos (by omega), mA'.2.1 a c ra (by omega) (by omega), mB'.2.1 b c rb (by omega) (by omega)]
    refine ⟨by omega, by omega, by omega, by omega, ⟨by omega, by omega⟩, ?_⟩
    refine (p_246 (d := d + 2) rv ⟨by omega, by omega⟩ ⟨by omega, by omega⟩).mono (Nat.le_refl _) (fun r u' h => ⟨by omega, by omega, fun w ew => ?_⟩)
    exact H r u' w (by rw [hgo]; exact h) ew
  · intro p a b v H
    refine k_257_124 ⟨⟨by omega, by omega⟩, ?_⟩
    rw [if_neg (by omega)]
    exact H
  · intro p n f g v gv rv hp z hok H
    have mA' := rMa_GF mA hA gv
    have mB' := rMa_GF mB hB gv
    obtain ⟨ra, rb⟩ := (hkk _ _).mp hok
    have ra1 := ra.1
    have ra2 := ra.2
    have rb1 := rb.1
    have rb2 := rb.2
    have n2 := rv.1
    have n3 := rv.2.1
    obtain ⟨c1, c2, -, -⟩ := rv.2.2.1 p hp
    refine k_257_14 ⟨⟨by omega, by omega⟩, ⟨by omega, by omega⟩, ?_⟩
    rw [if_pos (by omega)]
    refine ⟨⟨by omega, by omega⟩, ?_⟩
    rw [if_pos z, c1, c2, wI_eq ⟨by omega, by omega⟩, lst_R mA' ra, lst_R mB' rb]
    have hbA := b2_r (A.2.2 (f p).toNat)
    have hbB := b2_r (B.2.2 (g p).toNat)
    refine ⟨by omega, by omega, by omega, by omega, by omega, by omega, ⟨by omega, by omega⟩, ?_⟩
    have hgd : gdK k A B (f p) (g p) = if k = 0 then A.2.2 (f p).toNat || B.2.2 (g p).toNat else A.2.2 (f p).toNat && B.2.2 (g p).toNat := by
      unfold gdK
      by_cases c : k = 0
      · rw [if_pos c, if_pos c]
      · rw [if_neg c, if_neg c, if_pos (by omega)]
    by_cases c : k = 0
    · rw [if_pos c]
      rw [if_pos c] at hgd
      refine ⟨⟨by omega, by omega⟩, ?_⟩
      cases h1 : A.2.2 (f p).toNat with
      | true =>
        rw [if_neg (by decide)]
        exact fun w ew => H w (by rw [hgd, h1]; exact ew)
      | false =>
        rw [if_pos b2f]
        refine ⟨⟨by omega, by omega⟩, ?_⟩
        cases h2 : B.2.2 (g p).toNat with
        | true =>
          rw [if_neg (by decide)]
          exact fun w ew => H w (by rw [hgd, h1, h2]; exact ew)
        | false =>
          rw [if_pos b2f]
          exact fun w ew => H w (by rw [hgd, h1, h2]; exact ew)
    · rw [if_neg c]
      rw [if_neg c] at hgd
      refine ⟨⟨by omega, by omega⟩, ?_⟩
      cases h1 : A.2.2 (f p).toNat with
      | false =>
        rw [if_pos b2f]
        exact fun w ew => H w (by rw [hgd, h1]; exact ew)
      | true =>
        rw [if_neg (by decide)]
        refine ⟨⟨by omega, by omega⟩, ?_⟩
        cases h2 : B.2.2 (g p).toNat with
        | true =>
          rw [if_neg (by decide)]
          exact fun w ew => H w (by rw [hgd, h1, h2]; exact ew)
        | false =>
          rw [if_pos b2f]
          exact fun w ew => H w (by rw [hgd, h1, h2]; exact ew)
  · intro p n f g v gv rv hp zz hx hG
    have n2 := rv.1
    have n3 := rv.2.1
    refine k_257_14 ⟨⟨by omega, by omega⟩, ⟨by omega, by omega⟩, ?_⟩
    by_cases c : (p : Int) < v.1 271 44
    · rw [if_pos c]
      refine ⟨⟨by omega, by omega⟩, ?_⟩
      rw [if_neg (by omega)]
      exact fun u34 e34 => fin_R hM h42 hG e34
    · rw [if_neg c]
      exact fun u34 e34 => fin_R hM h42 hG e34
set_option maxRecDepth 4000 in
theorem q_244 {d M l1 l2 : Nat} {A B : Ma} {u : uS} (hl1 : l1 < 100) (hl2 : l2 < 100) (hM : M < 100) (h42 : u.1 271 42 = M) (h43 : u.1 271 43 = 0) (hA : okM A) (hB : okM B) (mA : rMa u l1 A) (mB : rMa u l2 B) : cI (d + 4) 244 [.ref 271, iV (l1 : Nat), iV (l2 : Nat)] u (RK 2 A B M u) := by
  have a1 := hA.1
  have a40 := hA.2.1
  have b40 := hB.2.1
  have e1 : st1 2 = 0 := by unfold st1; rw [if_neg (by omega)]
  have e2 : st2 1 2 A = b2 (A.2.2 0) := by unfold st2; rw [if_pos rfl]
  have hkk : ∀ a b : Int, okK 2 A B a b ↔ iR A.1 a ∧ sX B b := fun a b => by unfold okK; rw [if_neg (by omega), if_pos rfl]
  have hgo : ∀ a b c : Int, goK 1 2 A B a b c = (A.2.1 a c, lor (aft B b c) (b2 (A.2.2 (A.2.1 a c).toNat))) := fun a b c => by unfold goK; rw [if_neg (by omega), if_pos rfl]
  have hgd : ∀ a b : Int, gdK 2 A B a b = hlA B b := fun a b => by unfold gdK; rw [if_neg (by omega), if_neg (by omega), if_pos rfl]
  have body : ∀ v0 : uS, GFm u v0 → RP v0 1 (fun _ => 0) (fun _ => b2 (A.2.2 0)) → v0.1 271 43 = 0 → K_244 (d + 3) 29 [.ref 271, iV (l1 : Nat), iV (l2 : Nat), iV 0, .retAddr 0, .retAddr 0, .retAddr 0, .retAddr 0, .retAddr 0] [] v0 (RK 2 A B M u) := by
    intro v0 g0 r0 z0
    refine gat_R (k := 2) (A := A) (B := B) (u := u) (KR := fun p v => K_244 (d + 3) 29 [.ref 271, iV (l1 : Nat), iV (l2 : Nat), iV (p : Nat), .retAddr 0, .retAddr 0, .retAddr 0, .retAddr 0, .retAddr 0] [] v (RK 2 A B M u)) (KL := fun p a b c v => K_244 (d + 3) 76 [.ref 271, iV (l1 : Nat), iV (l2 : Nat), iV (p : Nat), iV a, lV b, .retAddr 0, iV (c : Nat), .retAddr 0] [] v (RK 2 A B M u)) hA hB ?_ ?_ ?_ ?_ g0 (by rw [e1, e2]; exact r0) z0
    · intro p c n f g a b v gv rv hp hc hok H
      have mA' := rMa_GF mA hA gv
      have mB' := rMa_GF mB hB gv
      obtain ⟨ra, rb⟩ := (hkk a b).mp hok
      have ra1 := ra.1
      have ra2 := ra.2
      have sa := hA.2.2.1 a c ra (by omega) (by omega)
      have sa1 := sa.1
      have sa2 := sa.2
      have n2 := rv.1
      refine k_244_76 ⟨⟨by omega, by omega⟩, ?_⟩
      rw [if_pos (by omega), mA'.2.1 a c ra (by omega) (by omega)]
      refine ⟨by omega, by omega, ?_⟩
      refine (q_248 (d := d + 2) (by omega) (by omega) hB mB' (by omega) (by omega)).mono (Nat.le_refl _) (fun r6 u5 h6 => ?_)
      rw [h6.1, h6.2, lst_R mA' sa]
      have hb := b2_r (A.2.2 (A.2.1 a c).toNat)
      refine ⟨by omega, by omega, ⟨by omega, by omega⟩, ?_⟩
      cases hl : A.2.2 (A.2.1 a c).toNat with
      | false =>
        rw [if_pos b2f]
        refine (p_246 (d := d + 2) rv ⟨by omega, by omega⟩ (rl_lor _ _)).mono (Nat.le_refl _) (fun r u' h => ⟨by omega, by omega, fun w ew => ?_⟩)
        exact H r u' w (by rw [hgo, hl]; exact h) ew
      | true =>
        rw [if_neg (by decide)]
        refine (p_246 (d := d + 2) rv ⟨by omega, by omega⟩ (rl_lor _ _)).mono (Nat.le_refl _) (fun r u' h => ⟨by omega, by omega, fun w ew => ?_⟩)
        exact H r u' w (by rw [hgo, hl]; exact h) ew
    · intro p a b v H
      refine k_244_76 ⟨⟨by omega, by omega⟩, ?_⟩
      rw [if_neg (by omega)]
      exact H
    · intro p n f g v gv rv hp z hok H
      have mB' := rMa_GF mB hB gv
      have n2 := rv.1
      have n3 := rv.2.1
      obtain ⟨c1, c2, -, -⟩ := rv.2.2.1 p hp
      refine k_244_29 ⟨⟨by omega, by omega⟩, ⟨by omega, by omega⟩, ?_⟩
      rw [if_pos (by omega)]
      refine ⟨⟨by omega, by omega⟩, ?_⟩
      rw [if_pos z, c1, c2]
      refine ⟨by omega, by omega, ?_⟩
      refine (q_247 (d := d + 2) (by omega) (by omega) hB mB').mono (Nat.le_refl _) (fun r9 u8 h => ?_)
      rw [h.1, h.2]
      exact ⟨b2_r _, fun w ew => H w (by rw [hgd]; exact ew)⟩
    · intro p n f g v gv rv hp zz hx hG
      have n2 := rv.1
      have n3 := rv.2.1
      refine k_244_29 ⟨⟨by omega, by omega⟩, ⟨by omega, by omega⟩, ?_⟩
      by_cases c : (p : Int) < v.1 271 44
      · rw [if_pos c]
        refine ⟨⟨by omega, by omega⟩, ?_⟩
        rw [if_neg (by omega)]
        exact fun u34 e34 => fin_R hM h42 hG e34
      · rw [if_neg c]
        exact fun u34 e34 => fin_R hM h42 hG e34
  refine e_244 (d := d + 2) (begin_R h43 (fun u1 r1 g1 z1 => ?_))
  have mA1 := rMa_GF mA hA g1
  have el : u1.1 303 (40 * (l1 : Int)) = b2 (A.2.2 0) := by
    have := lst_R mA1 (s := 0) ⟨by omega, by omega⟩
    rw [show 40 * (l1 : Int) + 0 = 40 * (l1 : Int) by omega] at this
    exact this
  rw [el]
  have hb := b2_r (A.2.2 0)
  refine ⟨by omega, by omega, ⟨by omega, by omega⟩, ?_⟩
  cases hl : A.2.2 0 with
  | false =>
    rw [if_pos b2f]
    exact start_R ⟨by omega, by omega⟩ ⟨by omega, by omega⟩ r1 g1 z1 (fun v0 g0 r0 z0 => body v0 g0 (by rw [hl]; exact r0) z0)
  | true =>
    rw [if_neg (by decide)]
    exact start_R ⟨by omega, by omega⟩ ⟨by omega, by omega⟩ r1 g1 z1 (fun v0 g0 r0 z0 => body v0 g0 (by rw [hl]; exact r0) z0)
set_option maxRecDepth 4000 in
theorem q_258 {d M l1 : Nat} {k : Int} {A : Ma} {u : uS} (hk : k = 3 ∨ k = 4) (hl1 : l1 < 100) (hM : M < 100) (h42 : u.1 271 42 = M) (h43 : u.1 271 43 = 0) (hA : okM A) (mA : rMa u l1 A) : cI (d + 4) 258 [.ref 271, iV (l1 : Nat), iV (k - 3)] u (RK k A A M u) := by
  have a40 := hA.2.1
  have hkk : ∀ a b : Int, okK k A A a b ↔ (a = 0 ∨ a = 1) ∧ sX A b := fun a b => by unfold okK; rw [if_neg (by omega), if_neg (by omega)]
  have hgo : ∀ a b c : Int, goK 1 k A A a b c = (0, lor (aft A b c) (b2 (hlA A (aft A b c)))) := fun a b c => by
    have : goX 1 A a b = b := by unfold goX; rw [if_neg (fun hh => absurd hh.1 (by decide))]
    unfold goK
    rw [if_neg (by omega), if_neg (by omega), this]
  have hgd : ∀ a b : Int, gdK k A A a b = (decide (a = 1) || hlA A b) := fun a b => by unfold gdK; rw [if_neg (by omega), if_neg (by omega), if_neg (by omega)]
  have body : ∀ v0 : uS, GFm u v0 → RP v0 1 (fun _ => st1 k) (fun _ => st2 1 k A) → v0.1 271 43 = 0 → K_258 (d + 3) 21 [.ref 271, iV (l1 : Nat), .retAddr 0, iV 0, .retAddr 0, .retAddr 0, .retAddr 0, .retAddr 0, .retAddr 0] [] v0 (RK k A A M u) := by
    intro v0 g0 r0 z0
    refine gat_R (k := k) (A := A) (B := A) (u := u) (KR := fun p v => K_258 (d + 3) 21 [.ref 271, iV (l1 : Nat), .retAddr 0, iV (p : Nat), .retAddr 0, .retAddr 0, .retAddr 0, .retAddr 0, .retAddr 0] [] v (RK k A A M u)) (KL := fun p a b c v => K_258 (d + 3) 78 [.ref 271, iV (l1 : Nat), .retAddr 0, iV (p : Nat), lV b, .retAddr 0, iV (c : Nat), .retAddr 0, .retAddr 0] [] v (RK k A A M u)) hA hA ?_ ?_ ?_ ?_ g0 r0 z0
    · intro p c n f g a b v gv rv hp hc hok H
      have mA' := rMa_GF mA hA gv
      have n2 := rv.1
      refine k_258_78 ⟨⟨by omega, by omega⟩, ?_⟩
      rw [if_pos (by omega)]
      refine (q_248 (d := d + 2) (by omega) (by omega) hA mA' (by omega) (by omega)).mono (Nat.le_refl _) (fun r6 u5 h6 => ?_)
      rw [h6.1, h6.2]
      refine (q_247 (d := d + 2) (by omega) (by omega) hA mA').mono (Nat.le_refl _) (fun r9 u8 h => ?_)
      rw [h.1, h.2]
      have hb := b2_r (hlA A (aft A b c))
      refine ⟨⟨by omega, by omega⟩, ?_⟩
      cases hl : hlA A (aft A b c) with
      | false =>
        rw [if_pos b2f]
        refine (p_246 (d := d + 2) rv ⟨by omega, by omega⟩ (rl_lor _ _)).mono (Nat.le_refl _) (fun r u' h => ⟨by omega, by omega, fun w ew => ?_⟩)
        exact H r u' w (by rw [hgo, hl]; exact h) ew
      | true =>
        rw [if_neg (by decide)]
        refine (p_246 (d := d + 2) rv ⟨by omega, by omega⟩ (rl_lor _ _)).mono (Nat.le_refl _) (fun r u' h => ⟨by omega, by omega, fun w ew => ?_⟩)
        exact H r u' w (by rw [hgo, hl]; exact h) ew
    · intro p a b v H
      refine k_258_78 ⟨⟨by omega, by omega⟩, ?_⟩
      rw [if_neg (by omega)]
      exact H
    · intro p n f g v gv rv hp z hok H
      have mA' := rMa_GF mA hA gv
      have n2 := rv.1
      have n3 := rv.2.1
      obtain ⟨c1, c2, c3, -⟩ := rv.2.2.1 p hp
      refine k_258_21 ⟨⟨by omega, by omega⟩, ⟨by omega, by omega⟩, ?_⟩
      rw [if_pos (by omega)]
      refine ⟨⟨by omega, by omega⟩, ?_⟩
      rw [if_pos z, c1, c2]
      refine ⟨by omega, by omega, c3, ?_⟩
      by_cases c : f p = 1
      · rw [if_pos c]
        exact fun w ew => H w (by rw [hgd, decide_eq_true c, Bool.true_or]; exact ew)
      · rw [if_neg c]
        refine (q_247 (d := d + 2) (by omega) (by omega) hA mA').mono (Nat.le_refl _) (fun r9 u8 h => ?_)
        rw [h.1, h.2]
        have hb := b2_r (hlA A (g p))
        refine ⟨⟨by omega, by omega⟩, ?_⟩
        cases hl : hlA A (g p) with
        | false =>
          rw [if_pos b2f]
          exact fun w ew => H w (by rw [hgd, decide_eq_false c, hl]; exact ew)
        | true =>
          rw [if_neg (by decide)]
          exact fun w ew => H w (by rw [hgd, decide_eq_false c, hl]; exact ew)
    · intro p n f g v gv rv hp zz hx hG
      have n2 := rv.1
      have n3 := rv.2.1
      refine k_258_21 ⟨⟨by omega, by omega⟩, ⟨by omega, by omega⟩, ?_⟩
      by_cases c : (p : Int) < v.1 271 44
      · rw [if_pos c]
        refine ⟨⟨by omega, by omega⟩, ?_⟩
        rw [if_neg (by omega)]
        exact fun u34 e34 => fin_R hM h42 hG e34
      · rw [if_neg c]
        exact fun u34 e34 => fin_R hM h42 hG e34
  refine e_258 (d := d + 2) (begin_R h43 (fun u1 r1 g1 z1 => ⟨⟨by omega, by omega⟩, ?_⟩))
  by_cases c : k - 3 = 0
  · rw [if_pos c]
    refine start_R ⟨by omega, by omega⟩ ⟨by omega, by omega⟩ r1 g1 z1 (fun v0 g0 r0 z0 => body v0 g0 ?_ z0)
    have e1 : st1 k = 0 := by unfold st1; rw [if_neg (by omega)]
    have e2 : st2 1 k A = 1 := by unfold st2; rw [if_neg (by omega), if_pos (by omega)]
    rw [e1, e2]
    exact r0
  · rw [if_neg c]
    refine start_R ⟨by omega, by omega⟩ ⟨by omega, by omega⟩ r1 g1 z1 (fun v0 g0 r0 z0 => body v0 g0 ?_ z0)
    have e1 : st1 k = 1 := by unfold st1; rw [if_pos (by omega)]
    have e2 : st2 1 k A = 1 := by unfold st2; rw [if_neg (by omega), if_neg (by omega), if_pos (by omega)]
    rw [e1, e2]
    exact r0
