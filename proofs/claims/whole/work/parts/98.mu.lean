/-! The other side's simple machines, its turning, its copying -/
theorem GF_NF {M y : Int} {u v w : uS} (h : GFm (wr u 271 42 y) v) (h' : NF M v w) : RFm M u w := by
  refine ⟨h'.1.trans h.1, fun b j hb h1 h2 h3 h4 => ?_, fun hB => h'.2.2 (fun j => by rw [GF_row h (by decide), wr_ne (by decide)]; exact hB j)⟩
  simp only [List.mem_cons, List.not_mem_nil, or_false, not_or] at hb
  rw [h'.2.1 b j (by simp only [List.mem_cons, List.not_mem_nil, or_false, not_or]; omega) h1 h2 h3 (fun e => (h4 e).2.1), h.2 b j (by simp only [List.mem_cons, List.not_mem_nil, or_false, not_or]; omega) (fun e => (h4 e).2), wr_1, if_neg (fun e => (h4 e.1).1 e.2)]
def SK (A : Ma) (M : Nat) (u : uS) (r : Int) (u' : uS) : Prop := r = (M : Nat) ∧ RFm M u u' ∧ u'.1 271 42 = (M : Int) + 1 ∧ u'.1 271 43 = 0 ∧ rMa u' M A
theorem q_201b {d M : Nat} {u : uS} (hM : M < 100) : cV (d + 1) 201 [.ref 271, iV (M : Nat)] u (fun u' => u'.2 = u.2 ∧ (∀ b, b ≠ 301 → b ≠ 302 → b ≠ 303 → u'.1 b = u.1 b) ∧ u'.1 301 = uf (u.1 301) M 1 ∧ u'.1 303 = uf (u.1 303) (40 * (M : Int)) 0 ∧ (∀ c : Int, 0 ≤ c → c < 10 → u'.1 302 (400 * (M : Int) + c) = 0) ∧ ∀ j : Int, ¬ (400 * (M : Int) ≤ j ∧ j < 400 * (M : Int) + 10) → u'.1 302 j = u.1 302 j) := by
  refine e_201 ⟨by omega, by omega, fun u3 e3 => ⟨by omega, by omega, fun u7 e7 => ?_⟩⟩
  have h301 : u7.1 301 = uf (u.1 301) M 1 := by rw [e7, wr_ne (by decide), e3, wr_uf]
  have h303 : u7.1 303 = uf (u.1 303) (40 * (M : Int)) 0 := by rw [e7, wr_uf, e3, wr_ne (by decide)]
  have h302 : u7.1 302 = u.1 302 := by rw [e7, wr_ne (by decide), e3, wr_ne (by decide)]
  have hoth : ∀ b, b ≠ 301 → b ≠ 302 → b ≠ 303 → u7.1 b = u.1 b := fun b h1 _ h3 => by rw [e7, wr_ne h3, e3, wr_ne h1]
  have href : u7.2 = u.2 := by rw [e7, wr_2, e3, wr_2]
  have loop : ∀ (m k : Nat) (v : uS), k + m = 10 → v.2 = u.2 → (∀ b, b ≠ 302 → v.1 b = u7.1 b) → (∀ c : Int, 0 ≤ c → c < k → v.1 302 (400 * (M : Int) + c) = 0) → (∀ j : Int, ¬ (400 * (M : Int) ≤ j ∧ j < 400 * (M : Int) + 10) → v.1 302 j = u.1 302 j) → K_201 d 19 [.ref 271, iV (M : Nat), iV (k : Nat)] [] v (fun u' => u'.2 = u.2 ∧ (∀ b, b ≠ 301 → b ≠ 302 → b ≠ 303 → u'.1 b = u.1 b) ∧ u'.1 301 = uf (u.1 301) M 1 ∧ u'.1 303 = uf (u.1 303) (40 * (M : Int)) 0 ∧ (∀ c : Int, 0 ≤ c → c < 10 → u'.1 302 (400 * (M : Int) + c) = 0) ∧ ∀ j : Int, ¬ (400 * (M : Int) ≤ j ∧ j < 400 * (M : Int) + 10) → u'.1 302 j = u.1 302 j) := by
    intro m
    induction m with
    | zero =>
      intro k v hk f1 f2 f3 f4
      refine k_201_19 ⟨⟨by omega, by omega⟩, ?_⟩
      rw [if_neg (by omega)]
      exact ⟨f1, fun b h1 h2 h3 => by rw [f2 b h2]; exact hoth b h1 h2 h3, by rw [f2 301 (by decide)]; exact h301, by rw [f2 303 (by decide)]; exact h303, fun c c0 c1 => f3 c c0 (by omega), f4⟩
    | succ m ih =>
      intro k v hk f1 f2 f3 f4
      refine k_201_19 ⟨⟨by omega, by omega⟩, ?_⟩
      rw [if_pos (by omega)]
      refine ⟨by omega, by omega, fun u5 e5 => ih (k + 1) u5 (by omega) (by rw [e5, wr_2]; exact f1) (fun b hb => by rw [e5, wr_ne hb]; exact f2 b hb) (fun c c0 c1 => ?_) (fun j hj => ?_)⟩
      · rw [e5, wr_uf]
        by_cases e : c = k
        · rw [e, uf_eq]
        · rw [uf_ne (by omega)]; exact f3 c c0 (by omega)
      · rw [e5, wr_uf, uf_ne (by omega)]; exact f4 j hj
  exact loop 10 0 u7 (by omega) href (fun _ _ => rfl) (fun c c0 c1 => by omega) (fun j _ => by rw [h302])
set_option maxRecDepth 4000 in
theorem q_253 {d M : Nat} {w : Int} {u : uS} (hw : w = -1 ∨ (0 ≤ w ∧ w ≤ 11)) (hM : M < 100) (h42 : u.1 271 42 = M) (h43 : u.1 271 43 = 0) : cI (d + 4) 253 [.ref 271, iV w] u (SK (sMp w) M u) := by
  refine e_253 (d := d + 2) (fun u1 e1 => ⟨⟨by omega, by omega⟩, ?_⟩)
  rw [h42] at e1
  have k42 : u1.1 271 42 = (M : Int) + 1 := by rw [e1, wr_self]
  have k43 : u1.1 271 43 = 0 := by rw [e1, wr_1, if_neg (by decide)]; exact h43
  rw [k42, show (M : Int) + 1 - 1 = (M : Nat) by omega]
  by_cases c11 : w = 11
  · rw [if_pos c11]
    have em : sMp w = nOn := by unfold sMp; rw [if_neg (by omega), if_neg (by omega), if_pos c11]
    refine (q_201b (d := d + 2) hM).mono (Nat.le_refl _) (fun u5 h5 => ?_)
    obtain ⟨a1, a2, a3, a4, a5, a6⟩ := h5
    refine ⟨rfl, ⟨by rw [a1, e1, wr_2], fun b j hb g1 g2 g3 g4 => ?_, fun hB j => ?_⟩, by rw [a2 271 (by decide) (by decide) (by decide)]; exact k42, by rw [a2 271 (by decide) (by decide) (by decide)]; exact k43, ?_⟩
    · by_cases b1 : b = 301
      · rw [b1] at g1 ⊢
        rw [a3, uf_ne (g1 rfl), e1, wr_ne (by decide)]
      · by_cases b2 : b = 302
        · rw [b2] at g2 ⊢
          have := g2 rfl
          rw [a6 j (by omega), e1, wr_ne (by decide)]
        · by_cases b3 : b = 303
          · rw [b3] at g3 ⊢
            have := g3 rfl
            rw [a4, uf_ne (by omega), e1, wr_ne (by decide)]
          · rw [a2 b b1 b2 b3, e1, wr_1, if_neg (fun e => (g4 e.1).1 e.2)]
    · rw [a4]
      by_cases e : j = 40 * (M : Int)
      · rw [e, uf_eq]; exact Or.inl rfl
      · rw [uf_ne e, e1, wr_ne (by decide)]; exact hB j
    · rw [em]
      refine ⟨by rw [a3, uf_eq]; rfl, fun s c hs c0 c1 => ?_, fun s hs => ?_⟩
      · have hs1 : 0 ≤ s := hs.1
        have hs2 : s < 1 := hs.2
        rw [show 400 * ((M : Nat) : Int) + 10 * s + c = 400 * (M : Int) + c by omega]
        exact a5 c c0 c1
      · have hs1 : 0 ≤ s := hs.1
        have hs2 : s < 1 := hs.2
        rw [show 40 * ((M : Nat) : Int) + s = 40 * (M : Int) by omega, a4, uf_eq]
        rfl
  · rw [if_neg c11]
    have hw' : w = -1 ∨ (0 ≤ w ∧ w ≤ 10) := by omega
    refine begin_R k43 (fun u6 r6 g6 z6 => ?_)
    have hN : sN w = 2 ∨ sN w = 3 := by unfold sN; split <;> simp
    have hN3 : sN w ≤ 3 := by omega
    -- the rows
    have fin : ∀ v : uS, GFm u1 v → v.1 271 43 = 0 → v.1 271 44 = (sN w : Nat) → (∀ j : Nat, j < 10 * sN w → v.1 306 j = sX1 w j) → (∀ p : Nat, p < sN w → v.1 307 p = b2 (sG w p)) → cV (d + 3) 249 [.ref 271, iV (M : Nat)] v (fun u24 => SK (sMp w) M u (M : Nat) u24) := by
      intro v gv z v44 vx vl
      have hEV : EV v (sN w) (sX1 w) := by
        refine ⟨by omega, by omega, v44, fun j hj => ⟨vx j hj, ?_⟩⟩
        unfold sX1
        have : 2 ≤ sN w := by omega
        split
        · omega
        · split
          · omega
          · next h => have : sN w = 3 := by unfold sN; rw [if_neg h]
                      omega
      refine (q_249 (d := d) (gd := sG w) (by omega) (by omega) hEV z vl).mono (Nat.le_refl _) (fun u24 h24 => ?_)
      obtain ⟨n1, n2⟩ := h24
      have n42 : u24.1 271 42 = (M : Int) + 1 := by
        rw [n1.2.1 271 42 (by decide) (fun e => absurd e (by decide)) (fun e => absurd e (by decide)) (fun e => absurd e (by decide)) (fun _ => by decide), gv.2 271 42 (by decide) (fun _ => ⟨by decide, by decide⟩)]
        exact k42
      rcases n2 with ⟨a1, a2⟩ | ⟨a1, a2, i, i1, i2, i3⟩
      · exact absurd a2 (D41_small (by omega))
      · rw [e1] at gv
        exact ⟨rfl, GF_NF gv n1, n42, a1, sMp_is hw' i1 i3⟩
    have rows : ∀ (no : Int), no = (if w = -1 then 1 else 2) → ∀ (r p : Nat) (v : uS), p + r = sN w → GFm u1 v → v.1 271 43 = 0 → v.1 271 44 = (sN w : Nat) → (∀ j : Nat, j < 10 * p → v.1 306 j = sX1 w j) → (∀ q : Nat, q < p → v.1 307 q = b2 (sG w q)) → K_253 (d + 3) 43 [.ref 271, iV w, iV (M : Nat), iV no, iV (p : Nat), .retAddr 0] [] v (SK (sMp w) M u) := by
      intro no hno r
      induction r with
      | zero =>
        intro p v hp gv z v44 vx vl
        have ep : p = sN w := by omega
        rw [ep] at vx vl
        refine k_253_43 (d := d + 2) ⟨⟨by omega, by omega⟩, ⟨by omega, by omega⟩, ?_⟩
        rw [if_neg (by omega)]
        exact fin v gv z v44 vx vl
      | succ r ih =>
        intro p v hp gv z v44 vx vl
        -- the letters of a row
        have letters : ∀ (m c : Nat) (v' : uS), c + m = 10 → GFm u1 v' → v'.1 271 43 = 0 → v'.1 271 44 = (sN w : Nat) → (∀ j : Nat, j < 10 * p + c → v'.1 306 j = sX1 w j) → (∀ q : Nat, q < p + 1 → v'.1 307 q = b2 (sG w q)) → K_253 (d + 3) 91 [.ref 271, iV w, iV (M : Nat), iV no, iV (p : Nat), iV (c : Nat)] [] v' (SK (sMp w) M u) := by
          intro m
          induction m with
          | zero =>
            intro c v' hc gv z v44 vx vl
            have ec : c = 10 := by omega
            rw [ec] at vx
            refine k_253_91 (d := d + 2) ⟨⟨by omega, by omega⟩, ?_⟩
            rw [if_neg (by omega)]
            exact ih (p + 1) v' (by omega) gv z v44 (fun j hj => vx j (by omega)) vl
          | succ m ihm =>
            intro c v' hc gv z v44 vx vl
            have next : ∀ (y : Int) (u9 : uS), y = sX1 w ((10 * p + c : Nat) : Int) → u9 = wr v' 306 (10 * (p : Int) + (c : Int)) y → K_253 (d + 3) 91 [.ref 271, iV w, iV (M : Nat), iV no, iV (p : Nat), iV ((c : Int) + 1)] [] u9 (SK (sMp w) M u) := by
              intro y u9 hy e9
              refine ihm (c + 1) u9 (by omega) (by rw [e9]; exact GF_wr (by decide) gv) (by rw [e9, wr_ne (by decide)]; exact z) (by rw [e9, wr_ne (by decide)]; exact v44) (fun j hj => ?_) (fun q hq => by rw [e9, wr_ne (by decide)]; exact vl q hq)
              rw [e9, wr_uf]
              by_cases e : j = 10 * p + c
              · rw [show 10 * (p : Int) + (c : Int) = ((10 * p + c : Nat) : Int) by omega, e, uf_eq]; exact hy
              · rw [uf_ne (by omega)]; exact vx j (by omega)
            refine k_253_91 (d := d + 2) ⟨⟨by omega, by omega⟩, ?_⟩
            rw [if_pos (by omega)]
            refine ⟨⟨by omega, by omega⟩, ?_⟩
            by_cases p0 : (p : Int) = 0
            · rw [if_pos p0]
              refine ⟨⟨by omega, by omega⟩, ?_⟩
              by_cases wc : w = (c : Nat)
              · rw [if_pos wc]
                exact ⟨by omega, by omega, fun u9 e9 => next 1 u9 (by unfold sX1; rw [if_pos ⟨by omega, by omega, Or.inl (by omega)⟩]) e9⟩
              · rw [if_neg wc]
                by_cases w10 : w = 10
                · rw [if_pos w10]
                  exact ⟨by omega, by omega, fun u9 e9 => next 1 u9 (by unfold sX1; rw [if_pos ⟨by omega, by omega, Or.inr w10⟩]) e9⟩
                · rw [if_neg w10]
                  exact ⟨by omega, by omega, fun u9 e9 => next no u9 (by unfold sX1; rw [if_neg (by omega), hno]) e9⟩
            · rw [if_neg p0]
              exact ⟨by omega, by omega, fun u9 e9 => next no u9 (by unfold sX1; rw [if_neg (by omega), hno]) e9⟩
        have begin : ∀ (y : Int) (u9 : uS), y = b2 (sG w p) → u9 = wr v 307 (p : Nat) y → K_253 (d + 3) 91 [.ref 271, iV w, iV (M : Nat), iV no, iV (p : Nat), iV 0] [] u9 (SK (sMp w) M u) := by
          intro y u9 hy e9
          refine letters 10 0 u9 (by omega) (by rw [e9]; exact GF_wr (by decide) gv) (by rw [e9, wr_ne (by decide)]; exact z) (by rw [e9, wr_ne (by decide)]; exact v44) (fun j hj => by rw [e9, wr_ne (by decide)]; exact vx j (by omega)) (fun q hq => ?_)
          rw [e9, wr_uf]
          by_cases e : q = p
          · rw [e, uf_eq]; exact hy
          · rw [uf_ne (by omega)]; exact vl q (by omega)
        refine k_253_43 (d := d + 2) ⟨⟨by omega, by omega⟩, ⟨by omega, by omega⟩, ?_⟩
        rw [if_pos (by omega)]
        refine ⟨⟨by omega, by omega⟩, ?_⟩
        by_cases cw : w = -1
        · rw [if_pos cw]
          by_cases p0 : (p : Int) = 0
          · rw [if_pos p0]
            exact ⟨by omega, by omega, fun u9 e9 => begin 1 u9 (by unfold sG; rw [if_pos cw, decide_eq_true (by omega)]; rfl) e9⟩
          · rw [if_neg p0]
            exact ⟨by omega, by omega, fun u9 e9 => begin 0 u9 (by unfold sG; rw [if_pos cw, decide_eq_false (by omega)]; rfl) e9⟩
        · rw [if_neg cw]
          by_cases p1 : (p : Int) = 1
          · rw [if_pos p1]
            exact ⟨by omega, by omega, fun u9 e9 => begin 1 u9 (by unfold sG; rw [if_neg cw, decide_eq_true (by omega)]; rfl) e9⟩
          · rw [if_neg p1]
            exact ⟨by omega, by omega, fun u9 e9 => begin 0 u9 (by unfold sG; rw [if_neg cw, decide_eq_false (by omega)]; rfl) e9⟩
    by_cases cw : w = -1
    · rw [if_pos cw]
      intro u8 e8
      exact rows 1 (by rw [if_pos cw]) (sN w) 0 u8 (by omega) (by rw [e8]; exact GF_43 (Or.inr rfl) g6) (by rw [e8, wr_1, if_neg (by decide)]; exact z6) (by rw [e8, wr_self]; unfold sN; rw [if_pos cw]; rfl) (fun j hj => by omega) (fun q hq => absurd hq (Nat.not_lt_zero q))
    · rw [if_neg cw]
      intro u8 e8
      exact rows 2 (by rw [if_neg cw]) (sN w) 0 u8 (by omega) (by rw [e8]; exact GF_43 (Or.inr rfl) g6) (by rw [e8, wr_1, if_neg (by decide)]; exact z6) (by rw [e8, wr_self]; unfold sN; rw [if_neg cw]; rfl) (fun j hj => by omega) (fun q hq => absurd hq (Nat.not_lt_zero q))
