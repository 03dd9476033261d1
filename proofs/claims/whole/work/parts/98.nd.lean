/-! The other side's tidying of its machines -/
theorem RX_CY {u v w : uS} {a b : Nat} (hb : 2 ≤ b) (h : RX u v) (h' : CY a b v w) : RX u w := by
  obtain ⟨h1, h2, h3, h4, h5⟩ := h'
  refine ⟨h1.trans h.1, fun c j hc hj => ?_, fun j hj => ?_, fun j hj => ?_, fun j hj => ?_⟩
  · rw [h2 c (by omega) (by omega) (by omega)]
    exact h.2.1 c j hc hj
  · rw [h3, uf_ne (by omega)]; exact h.2.2.1 j hj
  · rw [h4, if_neg (by omega)]; exact h.2.2.2.1 j hj
  · rw [h5, if_neg (by omega)]; exact h.2.2.2.2 j hj
/-- machines that are still needed -/
def ndd (u : uS) (l : Nat) (k : Nat) : Prop := ∃ a l' : Nat, a < 4 ∧ l' < l ∧ u.1 (314 + a) l' = (k : Nat)
def MKS (u v : uS) (P : Nat → Prop) : Prop := (∀ b, b ≠ 320 → v.1 b = u.1 b) ∧ v.2 = u.2 ∧ ∀ k : Nat, k < 100 → (v.1 320 k = 0 ∧ P k) ∨ (v.1 320 k = -2 ∧ ¬ P k)
theorem MKS_wr {u v : uS} {P : Nat → Prop} {x : Int} (h : MKS u v P) (h0 : 0 ≤ x) : MKS u (wr v 320 x 0) (fun k => P k ∨ (k : Int) = x) := by
  refine ⟨fun b hb => by rw [wr_ne hb]; exact h.1 b hb, by rw [wr_2]; exact h.2.1, fun k hk => ?_⟩
  rw [wr_uf]
  by_cases e : (k : Int) = x
  · rw [e, uf_eq]
    exact Or.inl ⟨rfl, Or.inr e⟩
  · rw [uf_ne e]
    rcases h.2.2 k hk with ⟨a, b⟩ | ⟨a, b⟩
    · exact Or.inl ⟨a, Or.inl b⟩
    · exact Or.inr ⟨a, fun hh => hh.elim b e⟩
theorem MKS_no {u v : uS} {P : Nat → Prop} {x : Int} (h : MKS u v P) (h0 : x = -2) : MKS u v (fun k => P k ∨ (k : Int) = x) := by
  refine ⟨h.1, h.2.1, fun k hk => ?_⟩
  rcases h.2.2 k hk with ⟨a, b⟩ | ⟨a, b⟩
  · exact Or.inl ⟨a, Or.inl b⟩
  · exact Or.inr ⟨a, fun hh => hh.elim b (fun e => by omega)⟩
theorem MKS_congr {u v : uS} {P Q : Nat → Prop} (h : MKS u v P) (hh : ∀ k, P k ↔ Q k) : MKS u v Q := ⟨h.1, h.2.1, fun k hk => by
  rcases h.2.2 k hk with ⟨a, b⟩ | ⟨a, b⟩
  · exact Or.inl ⟨a, (hh k).mp b⟩
  · exact Or.inr ⟨a, fun q => b ((hh k).mpr q)⟩⟩
/-- one slot marked -/
def tCn (b : Nat) (l : Int) (C : uS → Prop) (w : uS) : Prop := (rI (w.1 b l)) ∧ (if w.1 b l = (-2) then C w else ((0 ≤ w.1 b l) ∧ ((w.1 b l < 100) ∧ (∀ w' : uS, w' = wr w 320 (w.1 b l) 0 → C w'))))
theorem mark1 {u v : uS} {P : Nat → Prop} {C : uS → Prop} {b : Nat} {l : Int} (hb : b ≠ 320) (h : MKS u v P) (hr : u.1 b l = -2 ∨ (2 ≤ u.1 b l ∧ u.1 b l < 100)) (H : ∀ w : uS, MKS u w (fun k => P k ∨ (k : Int) = u.1 b l) → C w) : tCn b l C v := by
  unfold tCn
  rw [h.1 b hb]
  refine ⟨⟨by omega, by omega⟩, ?_⟩
  by_cases c : u.1 b l = -2
  · rw [if_pos c]
    exact H v (MKS_no h c)
  · rw [if_neg c]
    exact ⟨by omega, by omega, fun w ew => H w (by rw [ew]; exact MKS_wr h (by omega))⟩
def nwx (r : Int → Int) (x : Int) : Int := if x = -2 then -2 else r x
/-- one slot given its new number -/
theorem new1 {v : uS} {C : uS → Prop} {b : Nat} {l : Int} (hr : v.1 b l = -2 ∨ (2 ≤ v.1 b l ∧ v.1 b l < 100)) (H : C (wr v b l (nwx (v.1 320) (v.1 b l)))) : (rI (v.1 b l)) ∧ (if v.1 b l = (-2) then (∀ w : uS, w = wr v b l (-2) → C w) else ((0 ≤ v.1 b l) ∧ ((v.1 b l < 100) ∧ (∀ w : uS, w = wr v b l (v.1 320 (v.1 b l)) → C w)))) := by
  refine ⟨⟨by omega, by omega⟩, ?_⟩
  by_cases c : v.1 b l = -2
  · rw [if_pos c]
    intro w ew
    rw [ew]
    unfold nwx at H
    rw [if_pos c] at H
    exact H
  · rw [if_neg c]
    refine ⟨by omega, by omega, fun w ew => ?_⟩
    rw [ew]
    unfold nwx at H
    rw [if_neg c] at H
    exact H
/-- while machines move to their new numbers -/
def TD (u v : uS) (L m n : Nat) : Prop := RX u v ∧ B3 v ∧ (∀ b, b ≠ 301 → b ≠ 302 → b ≠ 303 → b ≠ 320 → v.1 b = u.1 b) ∧ 2 ≤ n ∧ n ≤ m ∧ (∀ k : Nat, k < 100 → m ≤ k → (v.1 320 k = 0 ∧ ndd u L k) ∨ (v.1 320 k = -2 ∧ ¬ ndd u L k)) ∧ (∀ k : Nat, 2 ≤ k → k < m → ndd u L k → ∃ q : Nat, v.1 320 k = (q : Nat) ∧ 2 ≤ q ∧ q < n ∧ ∀ A : Ma, okM A → rMa u (k : Nat) A → rMa v (q : Nat) A) ∧ (∀ k : Nat, m ≤ k → ∀ A : Ma, okM A → rMa u (k : Nat) A → rMa v (k : Nat) A) ∧ ∀ q : Nat, 2 ≤ q → q < n → ∃ k : Nat, k < 100 ∧ ndd u L k ∧ v.1 320 k = (q : Nat)
set_option maxRecDepth 4000 in
theorem q_259 {d M T : Nat} {u : uS} {S : bSt} (hB : RB u S M T) (hM : M ≤ 99) (z : u.1 271 43 = 0) : cV (d + 2) 259 [.ref 271] u (fun u' => RX u u' ∧ B3 u' ∧ u'.1 271 43 = 0 ∧ ∃ M' : Nat, M' ≤ 79 ∧ RB u' S M' T) := by
  obtain ⟨r1, r2, r3, r4, rT, r5, r6, r7, r8, r9⟩ := id hB
  refine e_259 (d := d) ?_
  rw [r3]
  refine ⟨⟨by omega, by omega⟩, ?_⟩
  by_cases c80 : (M : Int) < 80
  · rw [if_pos c80]
    exact ⟨RX_refl u, r5, z, M, by omega, hB⟩
  · rw [if_neg c80, z]
    refine ⟨⟨by omega, by omega⟩, ?_⟩
    rw [if_pos rfl]
    have hsl : ∀ a l : Nat, a < 4 → l ≤ S.1 → u.1 (314 + a) l = -2 ∨ (2 ≤ u.1 (314 + a) l ∧ u.1 (314 + a) l < M) := fun a l ha hl => (fRf_r (r6 a l ha hl)).2
    have hndd : ∀ k : Nat, ndd u (S.1 + 1) k → 2 ≤ k ∧ k < M := by
      rintro k ⟨a, l, ha, hl, e⟩
      have := hsl a l ha (by omega)
      omega
    generalize hQQ : (fun u' : uS => RX u u' ∧ B3 u' ∧ u'.1 271 43 = 0 ∧ ∃ M' : Nat, M' ≤ 79 ∧ RB u' S M' T) = QQ
    -- the new numbers written into the slots
    have remap : ∀ (w : uS) (n : Nat), TD u w (S.1 + 1) M n → ∀ (r l : Nat) (v : uS), l + r = S.1 + 1 → (∀ b, b ≠ 314 → b ≠ 315 → b ≠ 316 → b ≠ 317 → b ≠ 271 → v.1 b = w.1 b) → (∀ j : Int, j ≠ 42 → v.1 271 j = w.1 271 j) → v.1 271 42 = n → v.2 = w.2 → (∀ a l' : Nat, a < 4 → l' ≤ S.1 → v.1 (314 + a) l' = if l' < l then nwx (w.1 320) (u.1 (314 + a) l') else u.1 (314 + a) l') → K_259 (d + 1) 145 [.ref 271, .retAddr 0, iV (l : Nat)] [] v QQ := by
      intro w n hw r
      obtain ⟨w1, w2, w3, w4, w5, w6, w7, w8, w9⟩ := id hw
      have h27161 : w.1 271 61 = (S.1 : Int) + 1 := by rw [w3 271 (by decide) (by decide) (by decide) (by decide)]; exact r1
      induction r with
      | zero =>
        intro l v hl f1 f2 f3 f4 f5
        have el : l = S.1 + 1 := by omega
        refine k_259_145 ⟨⟨by omega, by omega⟩, ?_⟩
        rw [f2 61 (by decide), h27161]
        refine ⟨⟨by omega, by omega⟩, ?_⟩
        rw [if_neg (by omega), ← hQQ]
        -- there are few of them
        have hn66 : n ≤ 66 := by
          have hsl2 : ∀ q : Nat, ∃ i : Nat, 2 ≤ q → q < n → ∃ a l' k : Nat, i = 4 * l' + a ∧ a < 4 ∧ l' < S.1 + 1 ∧ u.1 (314 + a) l' = (k : Nat) ∧ k < 100 ∧ w.1 320 k = (q : Nat) := by
            intro q
            by_cases c : 2 ≤ q ∧ q < n
            · obtain ⟨k, k1, ⟨a, l', k2, k3, k4⟩, k5⟩ := w9 q c.1 c.2
              exact ⟨4 * l' + a, fun _ _ => ⟨a, l', k, rfl, k2, k3, k4, k1, k5⟩⟩
            · exact ⟨0, fun h1 h2 => absurd ⟨h1, h2⟩ c⟩
          obtain ⟨g, hg⟩ := Classical.axiomOfChoice hsl2
          have := ph_inj (n - 2) 64 (fun i => g (i + 2)) (fun i hi => by
            obtain ⟨a, l', k, e1, e2, e3, -⟩ := hg (i + 2) (by omega) (by omega)
            show g (i + 2) < 64
            omega) (fun i j hij hj e => by
            have e : g (i + 2) = g (j + 2) := e
            obtain ⟨a, l', k, e1, e2, e3, e4, e5, e6⟩ := hg (i + 2) (by omega) (by omega)
            obtain ⟨a', l'', k', e1', e2', e3', e4', e5', e6'⟩ := hg (j + 2) (by omega) (by omega)
            have ha : a = a' := by omega
            have hl2 : l' = l'' := by omega
            rw [ha, hl2] at e4
            have hk : k = k' := by omega
            rw [hk] at e6
            omega)
          omega
        have hv : ∀ b, b = 301 ∨ b = 302 ∨ b = 303 → v.1 b = w.1 b := fun b hb => f1 b (by omega) (by omega) (by omega) (by omega) (by omega)
        refine ⟨⟨f4.trans w1.1, fun b j hb hj => ?_, fun j hj => by rw [hv 301 (by omega)]; exact w1.2.2.1 j hj, fun j hj => by rw [hv 302 (by omega)]; exact w1.2.2.2.1 j hj, fun j hj => by rw [hv 303 (by omega)]; exact w1.2.2.2.2 j hj⟩, fun j => by rw [hv 303 (by omega)]; exact w2 j, ?_, n, by omega, ?_⟩
        · by_cases e : b = 271
          · rw [e] at hj ⊢
            rw [f2 j (hj rfl).1]
            exact w1.2.1 271 j (by omega) (fun _ => hj rfl)
          · rw [f1 b (by omega) (by omega) (by omega) (by omega) e]
            exact w1.2.1 b j hb hj
        · rw [f2 43 (by decide), w3 271 (by decide) (by decide) (by decide) (by decide)]; exact z
        · refine ⟨by rw [f2 61 (by decide)]; exact h27161, r2, f3, w4, rT, fun j => by rw [hv 303 (by omega)]; exact w2 j, fun a l' ha hl' => ?_, fun l' hl' => ?_, fun l' hl' hh => ?_, fun m hm => ?_⟩
          · have hl' : l' ≤ S.1 := hl'
            rw [f5 a l' ha hl', if_pos (by omega)]
            rcases r6 a l' ha hl' with ⟨x1, x2⟩ | ⟨k, m, x1, x2, x3, x4, x5, x6⟩
            · refine Or.inl ⟨x1, ?_⟩
              unfold nwx
              rw [if_pos x2]
            · obtain ⟨q, q1, q2, q3, q4⟩ := w7 k x3 x4 ⟨a, l', ha, by omega, x2⟩
              refine Or.inr ⟨q, m, x1, ?_, q2, q3, x5, ?_⟩
              · unfold nwx
                rw [if_neg (by omega), x2]
                exact q1
              · exact rMa_of (q4 m x5 x6) (by rw [hv 301 (by omega)]) (fun j _ _ => by rw [hv 302 (by omega)]) (fun j _ _ => by rw [hv 303 (by omega)]) x5
          · rw [f1 319 (by decide) (by decide) (by decide) (by decide) (by decide), w3 319 (by decide) (by decide) (by decide) (by decide)]
            exact r7 l' hl'
          · rw [f1 319 (by decide) (by decide) (by decide) (by decide) (by decide), w3 319 (by decide) (by decide) (by decide) (by decide)]
            exact r8 l' hl' hh
          · rw [f1 318 (by decide) (by decide) (by decide) (by decide) (by decide), w3 318 (by decide) (by decide) (by decide) (by decide), f1 319 (by decide) (by decide) (by decide) (by decide) (by decide), w3 319 (by decide) (by decide) (by decide) (by decide)]
            exact r9 m hm
      | succ r ih =>
        intro l v hl f1 f2 f3 f4 f5
        have hlS : l ≤ S.1 := by omega
        have v320 : v.1 320 = w.1 320 := f1 320 (by decide) (by decide) (by decide) (by decide) (by decide)
        have g : ∀ a : Nat, a < 4 → v.1 (314 + a) (l : Nat) = u.1 (314 + a) (l : Nat) := fun a ha => by rw [f5 a l ha hlS, if_neg (by omega)]
        have g0 : v.1 314 (l : Nat) = u.1 314 (l : Nat) := g 0 (by omega)
        have g1 : v.1 315 (l : Nat) = u.1 315 (l : Nat) := g 1 (by omega)
        have g2 : v.1 316 (l : Nat) = u.1 316 (l : Nat) := g 2 (by omega)
        have g3 : v.1 317 (l : Nat) = u.1 317 (l : Nat) := g 3 (by omega)
        have s0 : u.1 314 (l : Nat) = -2 ∨ (2 ≤ u.1 314 (l : Nat) ∧ u.1 314 (l : Nat) < M) := hsl 0 l (by omega) hlS
        have s1 : u.1 315 (l : Nat) = -2 ∨ (2 ≤ u.1 315 (l : Nat) ∧ u.1 315 (l : Nat) < M) := hsl 1 l (by omega) hlS
        have s2 : u.1 316 (l : Nat) = -2 ∨ (2 ≤ u.1 316 (l : Nat) ∧ u.1 316 (l : Nat) < M) := hsl 2 l (by omega) hlS
        have s3 : u.1 317 (l : Nat) = -2 ∨ (2 ≤ u.1 317 (l : Nat) ∧ u.1 317 (l : Nat) < M) := hsl 3 l (by omega) hlS
        -- the last of the level
        have fin : ∀ (v1 v2 v3 v4 : uS), v1 = wr v 314 (l : Nat) (nwx (w.1 320) (u.1 314 (l : Nat))) → v2 = wr v1 315 (l : Nat) (nwx (w.1 320) (u.1 315 (l : Nat))) → v3 = wr v2 316 (l : Nat) (nwx (w.1 320) (u.1 316 (l : Nat))) → v4 = wr v3 317 (l : Nat) (nwx (w.1 320) (u.1 317 (l : Nat))) → K_259 (d + 1) 145 [.ref 271, .retAddr 0, iV ((l : Int) + 1)] [] v4 QQ := by
          intro v1 v2 v3 v4 e1 e2 e3 e4
          refine ih (l + 1) v4 (by omega) (fun b h1 h2 h3 h4 h5 => by rw [e4, wr_ne h4, e3, wr_ne h3, e2, wr_ne h2, e1, wr_ne h1]; exact f1 b h1 h2 h3 h4 h5) (fun j hj => by rw [e4, wr_ne (by decide), e3, wr_ne (by decide), e2, wr_ne (by decide), e1, wr_ne (by decide)]; exact f2 j hj) (by rw [e4, wr_ne (by decide), e3, wr_ne (by decide), e2, wr_ne (by decide), e1, wr_ne (by decide)]; exact f3) (by rw [e4, wr_2, e3, wr_2, e2, wr_2, e1, wr_2]; exact f4) (fun a l' ha hl' => ?_)
          have ga : v4.1 (314 + a) = uf (v.1 (314 + a)) (l : Nat) (nwx (w.1 320) (u.1 (314 + a) (l : Nat))) := by
            have ha4 : a = 0 ∨ a = 1 ∨ a = 2 ∨ a = 3 := by omega
            rcases ha4 with e | e | e | e
            · rw [e]
              show v4.1 314 = uf (v.1 314) _ (nwx _ (u.1 314 _))
              rw [e4, wr_ne (by decide), e3, wr_ne (by decide), e2, wr_ne (by decide), e1, wr_uf]
            · rw [e]
              show v4.1 315 = uf (v.1 315) _ (nwx _ (u.1 315 _))
              rw [e4, wr_ne (by decide), e3, wr_ne (by decide), e2, wr_uf, e1, wr_ne (by decide)]
            · rw [e]
              show v4.1 316 = uf (v.1 316) _ (nwx _ (u.1 316 _))
              rw [e4, wr_ne (by decide), e3, wr_uf, e2, wr_ne (by decide), e1, wr_ne (by decide)]
            · rw [e]
              show v4.1 317 = uf (v.1 317) _ (nwx _ (u.1 317 _))
              rw [e4, wr_uf, e3, wr_ne (by decide), e2, wr_ne (by decide), e1, wr_ne (by decide)]
          rw [ga]
          by_cases e : l' = l
          · rw [e, uf_eq, if_pos (by omega)]
          · rw [uf_ne (by omega), f5 a l' ha hl']
            by_cases c : l' < l
            · rw [if_pos c, if_pos (by omega)]
            · rw [if_neg c, if_neg (by omega)]
        -- the second pair
        have pair2 : ∀ (v1 : uS) (x : Int), v1 = wr v 314 (l : Nat) (nwx (w.1 320) (u.1 314 (l : Nat))) → x = nwx (w.1 320) (u.1 315 (l : Nat)) → K_259 (d + 1) 218 [.ref 271, .retAddr 0, iV (l : Nat)] [iV x, iV (l : Nat), .ref 315] v1 QQ := by
          intro v1 x e1 ex
          refine k_259_218 (s0 := 315) (ns0 := 17) rfl ⟨by omega, by omega, fun u3 e3 => ⟨by omega, by omega, ?_⟩⟩
          rw [ex] at e3
          have a316 : u3.1 316 (l : Nat) = u.1 316 (l : Nat) := by rw [e3, wr_ne (by decide), e1, wr_ne (by decide)]; exact g2
          have a317 : u3.1 317 = v.1 317 := by rw [e3, wr_ne (by decide), e1, wr_ne (by decide)]
          have a320 : u3.1 320 = w.1 320 := by rw [e3, wr_ne (by decide), e1, wr_ne (by decide)]; exact v320
          refine new1 (C := fun u9 => (rI (u9.1 317 (l : Nat))) ∧ (if u9.1 317 (l : Nat) = (-2) then (∀ u13 : uS, u13 = wr u9 317 (l : Nat) (-2) → (K_259 (d + 1) 145 [.ref 271, .retAddr 0, iV ((l : Int) + 1)] [] u13 QQ)) else ((0 ≤ u9.1 317 (l : Nat)) ∧ ((u9.1 317 (l : Nat) < 100) ∧ (∀ u17 : uS, u17 = wr u9 317 (l : Nat) (u9.1 320 (u9.1 317 (l : Nat))) → (K_259 (d + 1) 145 [.ref 271, .retAddr 0, iV ((l : Int) + 1)] [] u17 QQ)))))) (by rw [a316]; omega) ?_
          rw [a316, a320]
          generalize e9 : wr u3 316 (l : Nat) (nwx (w.1 320) (u.1 316 (l : Nat))) = u9
          have b317 : u9.1 317 (l : Nat) = u.1 317 (l : Nat) := by rw [← e9, wr_ne (by decide), a317]; exact g3
          have b320 : u9.1 320 = w.1 320 := by rw [← e9, wr_ne (by decide)]; exact a320
          refine new1 (C := fun u13 => K_259 (d + 1) 145 [.ref 271, .retAddr 0, iV ((l : Int) + 1)] [] u13 QQ) (by rw [b317]; omega) ?_
          rw [b317, b320]
          exact fin v1 u3 u9 _ e1 e3 e9.symm rfl
        -- the first pair
        have pair1 : ∀ v1 : uS, v1 = wr v 314 (l : Nat) (nwx (w.1 320) (u.1 314 (l : Nat))) → (rI (v1.1 315 (l : Nat))) ∧ (if v1.1 315 (l : Nat) = (-2) then (K_259 (d + 1) 218 [.ref 271, .retAddr 0, iV (l : Nat)] [iV (-2), iV (l : Nat), .ref 315] v1 QQ) else ((0 ≤ v1.1 315 (l : Nat)) ∧ ((v1.1 315 (l : Nat) < 100) ∧ (K_259 (d + 1) 218 [.ref 271, .retAddr 0, iV (l : Nat)] [iV (v1.1 320 (v1.1 315 (l : Nat))), iV (l : Nat), .ref 315] v1 QQ)))) := by
          intro v1 e1
          have a315 : v1.1 315 (l : Nat) = u.1 315 (l : Nat) := by rw [e1, wr_ne (by decide)]; exact g1
          have a320 : v1.1 320 = w.1 320 := by rw [e1, wr_ne (by decide)]; exact v320
          rw [a315, a320]
          refine ⟨⟨by omega, by omega⟩, ?_⟩
          by_cases c : u.1 315 (l : Nat) = -2
          · rw [if_pos c]
            exact pair2 v1 (-2) e1 (by unfold nwx; rw [if_pos c])
          · rw [if_neg c]
            exact ⟨by omega, by omega, pair2 v1 _ e1 (by unfold nwx; rw [if_neg c])⟩
        refine k_259_145 ⟨⟨by omega, by omega⟩, ?_⟩
        rw [f2 61 (by decide), h27161]
        refine ⟨⟨by omega, by omega⟩, ?_⟩
        rw [if_pos (by omega), g0, v320]
        refine ⟨by omega, by omega, ⟨by omega, by omega⟩, ?_⟩
        by_cases c : u.1 314 (l : Nat) = -2
        · rw [if_pos c]
          exact fun u8 e8 => pair1 u8 (by unfold nwx; rw [if_pos c]; exact e8)
        · rw [if_neg c]
          exact ⟨by omega, by omega, fun u16 e16 => pair1 u16 (by unfold nwx; rw [if_neg c]; exact e16)⟩
    -- machines moved
    have move : ∀ (r m n : Nat) (v : uS), m + r = M → 2 ≤ m → TD u v (S.1 + 1) m n → K_259 (d + 1) 99 [.ref 271, iV (n : Nat), iV (m : Nat)] [] v QQ := by
      intro r
      induction r with
      | zero =>
        intro m n v hm h2 hv
        have em : m = M := by omega
        rw [em] at hv
        obtain ⟨w1, w2, w3, w4, w5, w6, w7, w8, w9⟩ := id hv
        have h42 : v.1 271 42 = M := by rw [w3 271 (by decide) (by decide) (by decide) (by decide)]; exact r3
        refine k_259_99 ⟨⟨by omega, by omega⟩, ⟨by omega, by omega⟩, ?_⟩
        rw [if_neg (by omega)]
        intro u11 e11
        refine remap v n hv (S.1 + 1) 0 u11 (by omega) (fun b _ _ _ _ h => by rw [e11, wr_ne h]) (fun j hj => by rw [e11, wr_1, if_neg (fun e => hj e.2)]) (by rw [e11, wr_self]) (by rw [e11, wr_2]) (fun a l' ha hl' => ?_)
        rw [if_neg (Nat.not_lt_zero l'), e11, wr_ne (by omega), w3 (314 + a) (by omega) (by omega) (by omega) (by omega)]
      | succ r ih =>
        intro m n v hm h2 hv
        obtain ⟨w1, w2, w3, w4, w5, w6, w7, w8, w9⟩ := id hv
        have h42 : v.1 271 42 = M := by rw [w3 271 (by decide) (by decide) (by decide) (by decide)]; exact r3
        have hmm := w6 m (by omega) (Nat.le_refl _)
        refine k_259_99 ⟨⟨by omega, by omega⟩, ⟨by omega, by omega⟩, ?_⟩
        rw [if_pos (by omega)]
        refine ⟨by omega, by omega, by rcases hmm with h | h <;> exact ⟨by omega, by omega⟩, ?_⟩
        rcases hmm with ⟨x1, x2⟩ | ⟨x1, x2⟩
        · rw [if_pos x1]
          refine (q_261 (d := d) (a := m) (b := n) (by omega) (by omega) w2).mono (Nat.le_refl _) (fun u8 h8 => ?_)
          intro u9 e9
          have hne : ∀ b, b ≠ 320 → u9.1 b = u8.1 b := fun b hb => by rw [e9, wr_ne hb]
          have h320 : u9.1 320 = uf (v.1 320) (m : Nat) (n : Nat) := by rw [e9, wr_uf, h8.2.1 320 (by decide) (by decide) (by decide)]
          have mv : ∀ (q : Nat) (A : Ma), okM A → rMa u8 (q : Nat) A → rMa u9 (q : Nat) A := fun q A hA h => rMa_of h (by rw [hne 301 (by decide)]) (fun j _ _ => by rw [hne 302 (by decide)]) (fun j _ _ => by rw [hne 303 (by decide)]) hA
          refine ih (m + 1) (n + 1) u9 (by omega) (by omega) ⟨?_, fun j => by rw [hne 303 (by decide)]; exact CY_B3 h8 w2 j, fun b b1 b2 b3 b4 => by rw [hne b b4, h8.2.1 b b1 b2 b3]; exact w3 b b1 b2 b3 b4, by omega, by omega, fun k k1 k2 => ?_, fun k k1 k2 k3 => ?_, fun k k1 A hA hu => ?_, fun q q1 q2 => ?_⟩
          · rw [e9]
            exact RX_wr (by omega) (by omega) (RX_CY w4 w1 h8)
          · rw [h320, uf_ne (by omega)]
            exact w6 k k1 (by omega)
          · rw [h320]
            by_cases e : k = m
            · refine ⟨n, by rw [e, uf_eq], w4, by omega, fun A hA hu => mv n A hA (CY_to h8 hA ?_)⟩
              rw [e] at hu
              exact w8 m (Nat.le_refl _) A hA hu
            · obtain ⟨q, q1, q2, q3, q4⟩ := w7 k k1 (by omega) k3
              exact ⟨q, by rw [uf_ne (by omega)]; exact q1, q2, by omega, fun A hA hu => mv q A hA (CY_keep h8 hA (q4 A hA hu) (by omega))⟩
          · exact mv k A hA (CY_keep h8 hA (w8 k (by omega) A hA hu) (by omega))
          · rw [h320]
            by_cases e : q = n
            · exact ⟨m, by omega, x2, by rw [uf_eq, e]⟩
            · obtain ⟨k, k1, k2, k3⟩ := w9 q q1 (by omega)
              refine ⟨k, k1, k2, ?_⟩
              rw [uf_ne ?_]
              · exact k3
              · intro ek
                rw [ek] at k3
                omega
        · rw [if_neg (by omega)]
          refine ih (m + 1) n v (by omega) (by omega) ⟨w1, w2, w3, w4, by omega, fun k k1 k2 => w6 k k1 (by omega), fun k k1 k2 k3 => ?_, fun k k1 => w8 k (by omega), w9⟩
          by_cases e : k = m
          · rw [e] at k3
            exact absurd k3 x2
          · exact w7 k k1 (by omega) k3
    -- machines marked
    have mark : ∀ (r l : Nat) (v : uS), l + r = S.1 + 1 → MKS u v (ndd u l) → K_259 (d + 1) 41 [.ref 271, iV (l : Nat), .retAddr 0] [] v QQ := by
      intro r
      induction r with
      | zero =>
        intro l v hl hv
        have el : l = S.1 + 1 := by omega
        rw [el] at hv
        have h61 : v.1 271 61 = (S.1 : Int) + 1 := by rw [hv.1 271 (by decide)]; exact r1
        refine k_259_41 ⟨⟨by omega, by omega⟩, ⟨by omega, by omega⟩, ?_⟩
        rw [if_neg (by omega)]
        have X : RX u v := ⟨hv.2.1, fun b j hb _ => by rw [hv.1 b (by omega)], fun j _ => by rw [hv.1 301 (by decide)], fun j _ => by rw [hv.1 302 (by decide)], fun j _ => by rw [hv.1 303 (by decide)]⟩
        exact move (M - 2) 2 2 v (by omega) (by omega) ⟨X, fun j => by rw [hv.1 303 (by decide)]; exact r5 j, fun b _ _ _ h => hv.1 b h, by omega, by omega, fun k k1 _ => hv.2.2 k k1, fun k k1 k2 => by omega, fun k _ A hA hu => rMa_of hu (by rw [hv.1 301 (by decide)]) (fun j _ _ => by rw [hv.1 302 (by decide)]) (fun j _ _ => by rw [hv.1 303 (by decide)]) hA, fun q q1 q2 => by omega⟩
      | succ r ih =>
        intro l v hl hv
        have hlS : l ≤ S.1 := by omega
        have h61 : v.1 271 61 = (S.1 : Int) + 1 := by rw [hv.1 271 (by decide)]; exact r1
        have s0 : u.1 314 (l : Nat) = -2 ∨ (2 ≤ u.1 314 (l : Nat) ∧ u.1 314 (l : Nat) < 100) := by have := hsl 0 l (by omega) hlS; have : u.1 314 (l : Nat) = -2 ∨ (2 ≤ u.1 314 (l : Nat) ∧ u.1 314 (l : Nat) < M) := this; omega
        have s1 : u.1 315 (l : Nat) = -2 ∨ (2 ≤ u.1 315 (l : Nat) ∧ u.1 315 (l : Nat) < 100) := by have := hsl 1 l (by omega) hlS; have : u.1 315 (l : Nat) = -2 ∨ (2 ≤ u.1 315 (l : Nat) ∧ u.1 315 (l : Nat) < M) := this; omega
        have s2 : u.1 316 (l : Nat) = -2 ∨ (2 ≤ u.1 316 (l : Nat) ∧ u.1 316 (l : Nat) < 100) := by have := hsl 2 l (by omega) hlS; have : u.1 316 (l : Nat) = -2 ∨ (2 ≤ u.1 316 (l : Nat) ∧ u.1 316 (l : Nat) < M) := this; omega
        have s3 : u.1 317 (l : Nat) = -2 ∨ (2 ≤ u.1 317 (l : Nat) ∧ u.1 317 (l : Nat) < 100) := by have := hsl 3 l (by omega) hlS; have : u.1 317 (l : Nat) = -2 ∨ (2 ≤ u.1 317 (l : Nat) ∧ u.1 317 (l : Nat) < M) := this; omega
        refine k_259_41 ⟨⟨by omega, by omega⟩, ⟨by omega, by omega⟩, ?_⟩
        rw [if_pos (by omega)]
        refine ⟨by omega, by omega, ?_⟩
        show tCn 314 (l : Nat) (tCn 315 (l : Nat) (tCn 316 (l : Nat) (tCn 317 (l : Nat) (fun w => K_259 (d + 1) 41 [.ref 271, iV ((l : Int) + 1), .retAddr 0] [] w QQ)))) v
        refine mark1 (by decide) hv s0 (fun w1 q1 => mark1 (by decide) q1 s1 (fun w2 q2 => mark1 (by decide) q2 s2 (fun w3 q3 => mark1 (by decide) q3 s3 (fun w4 q4 => ?_))))
        refine ih (l + 1) w4 (by omega) (MKS_congr q4 (fun k => ?_))
        constructor
        · rintro ((((h | h) | h) | h) | h)
          · obtain ⟨a, l', a1, a2, a3⟩ := h
            exact ⟨a, l', a1, by omega, a3⟩
          · exact ⟨0, l, by omega, by omega, h.symm⟩
          · exact ⟨1, l, by omega, by omega, h.symm⟩
          · exact ⟨2, l, by omega, by omega, h.symm⟩
          · exact ⟨3, l, by omega, by omega, h.symm⟩
        · rintro ⟨a, l', a1, a2, a3⟩
          by_cases e : l' = l
          · rw [e] at a3
            have ha4 : a = 0 ∨ a = 1 ∨ a = 2 ∨ a = 3 := by omega
            rcases ha4 with e' | e' | e' | e' <;> rw [e'] at a3
            · exact Or.inl (Or.inl (Or.inl (Or.inr a3.symm)))
            · exact Or.inl (Or.inl (Or.inr a3.symm))
            · exact Or.inl (Or.inr a3.symm)
            · exact Or.inr a3.symm
          · exact Or.inl (Or.inl (Or.inl (Or.inl ⟨a, l', a1, by omega, a3⟩)))
    have clear : ∀ (r k : Nat) (v : uS), k + r = 100 → (∀ b, b ≠ 320 → v.1 b = u.1 b) → v.2 = u.2 → (∀ j : Nat, j < k → v.1 320 j = -2) → K_259 (d + 1) 19 [.ref 271, iV (k : Nat), .retAddr 0] [] v QQ := by
      intro r
      induction r with
      | zero =>
        intro k v hk f1 f2 f3
        refine k_259_19 ⟨⟨by omega, by omega⟩, ?_⟩
        rw [if_neg (by omega)]
        refine mark (S.1 + 1) 0 v (by omega) ⟨f1, f2, fun j hj => Or.inr ⟨f3 j (by omega), ?_⟩⟩
        rintro ⟨a, l', -, h, -⟩
        exact absurd h (Nat.not_lt_zero l')
      | succ r ih =>
        intro k v hk f1 f2 f3
        refine k_259_19 ⟨⟨by omega, by omega⟩, ?_⟩
        rw [if_pos (by omega)]
        refine ⟨by omega, fun u4 e4 => ih (k + 1) u4 (by omega) (fun b hb => by rw [e4, wr_ne hb]; exact f1 b hb) (by rw [e4, wr_2]; exact f2) (fun j hj => ?_)⟩
        rw [e4, wr_uf]
        by_cases e : j = k
        · rw [e, uf_eq]
        · rw [uf_ne (by omega)]; exact f3 j (by omega)
    exact clear 100 0 u (by omega) (fun _ _ => rfl) rfl (fun j hj => absurd hj (Nat.not_lt_zero j))
