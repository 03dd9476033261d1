/-! One side's making of a machine -/
section
variable (as k : Int) (A B : Ma)
def pG : Nat → Pt := plG (goK as k A B) (st1 k) (st2 as k A)
def pE (i : Nat) : Prop := plE (goK as k A B) (st1 k) (st2 as k A) i
def pGd (i : Nat) (q : Nat) : Bool := decide (q < (pG as k A B i).1) && gdK k A B ((pG as k A B i).2.1 q) ((pG as k A B i).2.2.1 q)
/-- the step is great -/
def MKg : Prop := (∃ i : Nat, plB (goK as k A B) (st1 k) (st2 as k A) i) ∨ ∃ i : Nat, pE as k A B i ∧ D41 (pGd as k A B i) (pG as k A B i).2.2.2 (pG as k A B i).1
/-- the step's machine -/
def MKm (m : Ma) : Prop := ∃ i j : Nat, pE as k A B i ∧ (∃ (gr : Nat → Nat) (n : Nat), FPt (pGd as k A B i) (pG as k A B i).2.2.2 (pG as k A B i).1 gr n) ∧ nuE (pGd as k A B i) (pG as k A B i).2.2.2 (pG as k A B i).1 j ∧ m = nuM (pGd as k A B i) (pG as k A B i).2.2.2 (pG as k A B i).1 j
end
theorem MK_no {as k : Int} {A B m : Ma} (h : MKm as k A B m) (h' : MKg as k A B) : False := by
  obtain ⟨i, j, h1, ⟨gr, n, h2⟩, h3, h4⟩ := h
  rcases h' with ⟨i', h'⟩ | ⟨i', h5, h6⟩
  · exact plE_B h1 h'
  · have e := plE_uniq h1 h5
    rw [← e] at h6
    exact FPt_41 h2 h6
theorem MK_uniq {as k : Int} {A B m m' : Ma} (h : MKm as k A B m) (h' : MKm as k A B m') : m = m' := by
  obtain ⟨i, j, h1, -, h3, h4⟩ := h
  obtain ⟨i', j', h1', -, h3', h4'⟩ := h'
  have e := plE_uniq h1 h1'
  rw [← e] at h3' h4'
  have e2 := nuE_uniq h3 h3'
  rw [h4, h4', e2]
/-- what a step leaves: slots free, all but the maker and the machine written stays -/
def MKf (l4 : Nat) (u u' : uS) : Prop := (∀ b : Nat, b ∉ [64, 67, 68, 69, 70, 71, 72, 73, 74, 75, 76, 77, l4, l4 + 1] → u'.1 b = u.1 b) ∧ (∀ b : Nat, b ≠ 64 → u'.2 b = u.2 b) ∧ ∀ s : Int, 0 ≤ s → s < 4096 → u'.1 70 s = 0
theorem l_69 {d : Nat} {Q : Int → uS → Prop} : ∀ (m k' n : Nat) (f g : Int → Int) (v : uS), k' + m = n → CP v n f g → (v.1 64 4 = 0 ∨ v.1 64 4 = 1) → (∀ w : uS, (∀ b : Nat, b ≠ 70 → w.1 b = v.1 b) → w.2 = v.2 → (∀ q : Nat, q < n → w.1 70 (v.1 71 q) = 0) → (∀ s : Int, v.1 70 s = 0 → w.1 70 s = 0) → Q (1 - v.1 64 4) w) → ∀ v' : uS, (∀ b : Nat, b ≠ 70 → v'.1 b = v.1 b) → v'.2 = v.2 → (∀ q : Nat, q < k' → v'.1 70 (v.1 71 q) = 0) → (∀ s : Int, v.1 70 s = 0 → v'.1 70 s = 0) → K_69 d 51 [.ref 64, .retAddr 0, .retAddr 0, .retAddr 0, .retAddr 0, iV (k' : Nat)] [] v' Q := by
  intro m
  induction m with
  | zero =>
    intro k' n f g v hm hc h4 hQ v' f1 f2 f3 f5
    have e : k' = n := by omega
    rw [e] at f3
    have c1 := hc.1
    have c2 := hc.2.1
    refine k_69_51 ⟨⟨by omega, by omega⟩, ?_⟩
    rw [f1 64 (by decide)]
    refine ⟨⟨by omega, by omega⟩, ?_⟩
    rw [if_neg (by omega)]
    refine ⟨⟨by omega, by omega⟩, ?_⟩
    have := hQ v' f1 f2 f3 f5
    rcases h4 with h4 | h4
    · rw [if_pos h4]
      rw [h4] at this
      exact this
    · rw [if_neg (by omega)]
      rw [h4] at this
      exact this
  | succ m ih =>
    intro k' n f g v hm hc h4 hQ v' f1 f2 f3 f5
    have c1 := hc.1
    have c2 := hc.2.1
    have c6 := hc.2.2.2.2.2.1 k' (by omega)
    refine k_69_51 ⟨⟨by omega, by omega⟩, ?_⟩
    rw [f1 64 (by decide), f1 71 (by decide)]
    refine ⟨⟨by omega, by omega⟩, ?_⟩
    rw [if_pos (by omega)]
    refine ⟨by omega, by omega, by omega, by omega, fun u8 e8 => ?_⟩
    refine ih (k' + 1) n f g v (by omega) hc h4 hQ u8 (fun b hb => by rw [e8, wr_ne hb]; exact f1 b hb) (by rw [e8, wr_2]; exact f2) (fun q hq => ?_) (fun s hs => ?_)
    · rw [e8, wr_uf]
      by_cases e : v.1 71 q = v.1 71 k'
      · rw [e, uf_eq]
      · rw [uf_ne e]
        refine f3 q ?_
        by_cases e2 : q = k'
        · rw [e2] at e; exact absurd rfl e
        · omega
    · rw [e8, wr_uf]
      by_cases e : s = v.1 71 k'
      · rw [e, uf_eq]
      · rw [uf_ne e]; exact f5 s hs
set_option maxRecDepth 4000 in
theorem q_69 {d l2 l3 l4 : Nat} {u : uS} {k : Int} {A B : Ma} (o2 : isO l2 5) (o3 : isO l3 5) (o4 : isO l4 5) (g2 : 77 < l2) (g3 : 77 < l3) (g4 : 77 < l4) (k0 : 0 ≤ k) (k4 : k ≤ 4) (mA : cMa u l2 A) (mB : cMa u l3 B) (hA : okM A) (hB : okM B) (hz : ∀ s : Int, 0 ≤ s → s < 4096 → u.1 70 s = 0) : cI (d + 6) 69 [.ref 64, iV k, .ref l2, .ref l3, .ref l4] u (fun r u' => MKf l4 u u' ∧ ((r = 1 ∧ ∃ m : Ma, MKm 0 k A B m ∧ okM m ∧ cMa u' l4 m) ∨ (r = 0 ∧ MKg 0 k A B))) := by
  refine e_69 o2 o3 o4 (fun u1 e1 u3 e3 u5 e5 u7 e7 => ?_)
  have hn7 : ∀ b : Nat, b ≠ 64 → u7.1 b = u.1 b := fun b hb => by
    rw [e7, wr_ne hb, e5]
    show u3.1 b = _
    rw [e3]
    show u1.1 b = _
    rw [e1, wr_ne hb]
  have hr7 : ∀ b : Nat, b ≠ 64 → u7.2 b = u.2 b := fun b hb => by
    rw [e7, wr_2, e5, wq_ne hb, e3, wq_ne hb, e1, wr_2]
  have H7 : mkH u7 k A B := by
    refine ⟨l2, l3, o2, o3, g2, g3, ?_, k0, k4, ?_, ?_, cMa_of mA (by rw [hn7 l2 (by omega)]) (by rw [hn7 l2 (by omega)]) (hn7 _ (by omega)), cMa_of mB (by rw [hn7 l3 (by omega)]) (by rw [hn7 l3 (by omega)]) (hn7 _ (by omega)), hA, hB⟩
    · rw [e7, wr_1, if_neg (by decide), e5]
      show u3.1 64 0 = k
      rw [e3]
      show u1.1 64 0 = k
      rw [e1, wr_self]
    · rw [e7, wr_2, e5]
      show (if (64 : Nat) = 64 ∧ (1 : Int) = 2 then l3 else u3.2 64 1) = l2
      rw [if_neg (by decide), e3]
      show (if (64 : Nat) = 64 ∧ (1 : Int) = 1 then l2 else u1.2 64 1) = l2
      rw [if_pos ⟨rfl, rfl⟩]
    · rw [e7, wr_2, e5]
      show (if (64 : Nat) = 64 ∧ (2 : Int) = 2 then l3 else u3.2 64 2) = l3
      rw [if_pos ⟨rfl, rfl⟩]
  have z7 : ∀ s : Int, 0 ≤ s → s < 4096 → u7.1 70 s = 0 := fun s s1 s2 => by rw [hn7 70 (by decide)]; exact hz s s1 s2
  -- the clearing
  have clear : ∀ (w : uS) (n : Nat) (f g : Int → Int) (l : Int), CP w n f g → (w.1 64 4 = 0 ∨ w.1 64 4 = 1) → (∀ b : Nat, b ∉ [64, 67, 68, 69, 70, 71, 72, 73, 74, 75, 76, 77, l4, l4 + 1] → w.1 b = u.1 b) → (∀ b : Nat, b ≠ 64 → w.2 b = u.2 b) → ((1 - w.1 64 4 = 1 ∧ ∃ m : Ma, MKm 0 k A B m ∧ okM m ∧ cMa w l4 m) ∨ (1 - w.1 64 4 = 0 ∧ MKg 0 k A B)) → K_69 (d + 5) 51 [.ref 64, .retAddr 0, .retAddr 0, .retAddr 0, .retAddr 0, iV 0] [] w (fun r u' => MKf l4 u u' ∧ ((r = 1 ∧ ∃ m : Ma, MKm 0 k A B m ∧ okM m ∧ cMa u' l4 m) ∨ (r = 0 ∧ MKg 0 k A B))) := by
    intro w n f g _ hc h4 h5 h6 h7
    refine l_69 n 0 n f g w (by omega) hc h4 (fun w' a1 a2 a3 a4 => ?_) w (fun _ _ => rfl) rfl (fun q hq => absurd hq (Nat.not_lt_zero q)) (fun _ h => h)
    refine ⟨⟨fun b hb => ?_, fun b hb => by rw [a2]; exact h6 b hb, fun s s1 s2 => ?_⟩, ?_⟩
    · rw [a1 b (fun e => hb (by rw [e]; simp))]
      exact h5 b hb
    · by_cases c : w.1 70 s = 0
      · exact a4 s c
      · obtain ⟨q, q1, q2⟩ := hc.2.2.2.2.1 s s1 s2 c
        rw [← q2]
        exact a3 q q1
    · rcases h7 with ⟨b1, m, b2, b3, b4⟩ | h7
      · exact Or.inl ⟨b1, m, b2, b3, cMa_of b4 (by rw [a1 l4 (by omega)]) (by rw [a1 l4 (by omega)]) (a1 _ (by omega))⟩
      · exact Or.inr h7
  refine (q_70 (d := d) H7 (by rw [e7, wr_self]) z7).mono (Nat.le_refl _) (fun u9 h9 => ?_)
  obtain ⟨m9, h9⟩ := h9
  have hn9 : ∀ b : Nat, b ∉ [64, 67, 68, 69, 70, 71, 72, 73, 74, 75, 76, 77, l4, l4 + 1] → u9.1 b = u.1 b := fun b hb => by
    simp only [List.mem_cons, List.not_mem_nil, or_false, not_or] at hb
    rw [← hn7 b (by omega)]
    exact funext (fun j => m9.2 b j (by simp only [List.mem_cons, List.not_mem_nil, or_false, not_or]; omega) (fun e => by omega))
  have hr9 : ∀ b : Nat, b ≠ 64 → u9.2 b = u.2 b := fun b hb => by rw [m9.1]; exact hr7 b hb
  rcases h9 with ⟨z4, i, hE, hC, hX⟩ | ⟨z4, i, n, f, g, hBB, hC⟩
  · refine ⟨⟨by omega, by omega⟩, ?_⟩
    rw [if_pos z4]
    have H9 := MF_mkH m9 H7
    have hp1 : 1 ≤ (pG 0 k A B i).1 := plG_pos i
    have hp2 : (pG 0 k A B i).1 ≤ 2000 := plL_le hE.1
    have hi : i = 10 * (pG 0 k A B i).1 := hE.2
    have hDV : DV u9 (pG 0 k A B i).1 (pG 0 k A B i).2.2.2 := by
      refine ⟨hp1, hp2, hC.2.1, fun j hj => ⟨hX j (by omega), ?_⟩⟩
      obtain ⟨q, q1, q2, -⟩ := plL_x hE.1 (j := j) (by omega)
      have q2 : (pG 0 k A B i).2.2.2 j = q := q2
      have q1 : q < (pG 0 k A B i).1 := q1
      omega
    have hok := plG_good (P := okK k A B) (okK_st hA hB (Or.inl rfl)) (okK_go (as := 0) hA hB) i
    refine (q_79 (d := d + 1) (gd := pGd 0 k A B i) (f := (pG 0 k A B i).2.1) (g := (pG 0 k A B i).2.2.1) hDV H9 z4 (fun q hq => ?_)).mono (Nat.le_refl _) (fun u12 h12 => ?_)
    · exact (show u9.1 67 q = (pG 0 k A B i).2.1 q ∧ u9.1 68 q = (pG 0 k A B i).2.2.1 q ∧ okK k A B ((pG 0 k A B i).2.1 q) ((pG 0 k A B i).2.2.1 q) ∧ pGd 0 k A B i q = gdK k A B ((pG 0 k A B i).2.1 q) ((pG 0 k A B i).2.2.1 q) from ⟨(hC.2.2.1 q hq).1, (hC.2.2.1 q hq).2.1, hok q, by unfold pGd; rw [decide_eq_true hq, Bool.true_and]⟩)
    · obtain ⟨d12, e72, h12⟩ := h12
      have hC12 : CP u12 _ _ _ := CP_of hC (d12.2 64 3 (by decide) (fun _ => ⟨by decide, by decide⟩)) (funext (fun j => d12.2 67 j (by decide) (fun e => absurd e (by decide)))) (funext (fun j => d12.2 68 j (by decide) (fun e => absurd e (by decide)))) (funext (fun j => d12.2 70 j (by decide) (fun e => absurd e (by decide)))) (funext (fun j => d12.2 71 j (by decide) (fun e => absurd e (by decide))))
      have hn12 : ∀ b : Nat, b ∉ [64, 67, 68, 69, 70, 71, 72, 73, 74, 75, 76, 77, l4, l4 + 1] → u12.1 b = u.1 b := fun b hb => by
        rw [← hn9 b hb]
        simp only [List.mem_cons, List.not_mem_nil, or_false, not_or] at hb
        exact funext (fun j => d12.2 b j (by simp only [List.mem_cons, List.not_mem_nil, or_false, not_or]; omega) (fun e => by omega))
      have hr12 : ∀ b : Nat, b ≠ 64 → u12.2 b = u.2 b := fun b hb => by rw [d12.1]; exact hr9 b hb
      rcases h12 with ⟨y4, hD⟩ | ⟨y4, gr, n, hF, h14, h73⟩
      · refine ⟨⟨by omega, by omega⟩, ?_⟩
        rw [if_neg (by omega)]
        exact clear u12 _ _ _ 0 hC12 (Or.inr y4) hn12 hr12 (Or.inr ⟨by omega, Or.inr ⟨i, hE, hD⟩⟩)
      · refine ⟨⟨by omega, by omega⟩, ?_⟩
        rw [if_pos y4]
        refine (q_85 (d := d + 2) o4 g4 (DV_of hDV d12) hF h14 (fun p hp => ⟨h73 p hp, e72 p hp⟩)).mono (Nat.le_refl _) (fun u15 h15 => ?_)
        obtain ⟨w15, j, j1, j2, j3⟩ := h15
        have hn15 : ∀ b : Nat, b ∉ [76, 77, l4, l4 + 1] → u15.1 b = u12.1 b := w15.2
        have h64 : u15.1 64 = u12.1 64 := hn15 64 (by simp only [List.mem_cons, List.not_mem_nil, or_false, not_or]; omega)
        have hC15 : CP u15 _ _ _ := CP_of hC12 (by rw [h64]) (hn15 67 (by simp only [List.mem_cons, List.not_mem_nil, or_false, not_or]; omega)) (hn15 68 (by simp only [List.mem_cons, List.not_mem_nil, or_false, not_or]; omega)) (hn15 70 (by simp only [List.mem_cons, List.not_mem_nil, or_false, not_or]; omega)) (hn15 71 (by simp only [List.mem_cons, List.not_mem_nil, or_false, not_or]; omega))
        refine clear u15 _ _ _ 0 hC15 (Or.inl (by rw [h64]; exact y4)) (fun b hb => ?_) (fun b hb => by rw [w15.1]; exact hr12 b hb) (Or.inl ⟨by rw [h64, y4]; rfl, _, ⟨i, j, hE, ⟨gr, n, hF⟩, j1, rfl⟩, j2, j3⟩)
        rw [← hn12 b hb]
        refine hn15 b ?_
        simp only [List.mem_cons, List.not_mem_nil, or_false, not_or] at hb ⊢
        omega
  · refine ⟨⟨by omega, by omega⟩, ?_⟩
    rw [if_neg (by omega)]
    exact clear u9 n f g 0 hC (Or.inr z4) hn9 hr9 (Or.inr ⟨by omega, Or.inl ⟨i, hBB⟩⟩)
