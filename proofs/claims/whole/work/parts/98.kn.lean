/-! The other side: chooseAll -/
def opnC (z : uS) : Nat := ct (fun i => decide (z.1 341 (i : Int) ≠ 0)) 16000
def PI (M : Mg) (L H : T3) (b : Int) (N : Nat) (z : uS) : Prop :=
  (∀ t, 0 ≤ t → t < 16000 → (z.1 340 t = 0 ∨ z.1 340 t = 1) ∧ (z.1 341 t = 0 ∨ z.1 341 t = 1) ∧ cB (z.1 333 t)) ∧
  (∀ i : Int, 0 ≤ i → i < N → ∃ x p q, Fe M L x p q ∧ z.1 339 i = tix p x q) ∧
  (∀ x p q, Fe M L x p q → z.1 340 (tix p x q) = 1 → ∃ r S, CHr M L H z x p q r S ∧ (∀ k : Nat, k < (xl M r).toNat → ¬ xy M r k < 100 → z.1 340 (tpx M r S k) = 1) ∧ z.1 333 (tix p x q) = nszR M (z.1 333) r S (xl M r).toNat ∧ 1 ≤ z.1 333 (tix p x q)) ∧
  (∀ x p q, Fe M L x p q → z.1 341 (tix p x q) = 1 → z.1 340 (tix p x q) = 0 → ∃ i : Int, 0 ≤ i ∧ i < N ∧ z.1 339 i = tix p x q ∧ (∀ j : Int, i < j → j < N → ∀ x' p' q', Fe M L x' p' q' → z.1 339 j = tix p' x' q' → H x' p' q' < H x p q) ∧ ∃ r S, CHr M L H z x p q r S ∧ ∀ k : Nat, k < (xl M r).toNat → ¬ xy M r k < 100 → z.1 340 (tpx M r S k) = 1 ∨ ∃ j : Int, i < j ∧ j < N ∧ z.1 339 j = tpx M r S k) ∧
  N ≤ 1 + 6 * opnC z ∧ (z.1 340 b = 1 ∨ ∃ i : Int, 0 ≤ i ∧ i < N ∧ z.1 339 i = b)
theorem CHr_of {M : Mg} {L H : T3} {z y : uS} {x p q r : Int} {S : Nat → Int} (hM : Mok M) (h : CHr M L H z x p q r S) (e1 : y.1 331 (tix p x q) = z.1 331 (tix p x q)) (e2 : ∀ j, 7 * tix p x q ≤ j → j < 7 * tix p x q + 7 → y.1 332 j = z.1 332 j) (e3 : y.1 334 (tix p x q) = z.1 334 (tix p x q)) (e4 : y.1 335 (tix p x q) = z.1 335 (tix p x q)) : CHr M L H y x p q r S := by
  obtain ⟨h1, h2, h3, h4, h5⟩ := h
  have hl := (hM.2.2.2.2.1 r h2.1 h2.2.1).2.2.1
  refine ⟨by rw [e1]; exact h1, h2, fun k hk => ?_, by rw [e3]; exact h4, by rw [e4]; exact h5⟩
  rw [e2 _ (by omega) (by omega)]
  exact h3 k hk
/-- as the other side leaves a chosen tree -/
def RLD (M : Mg) (L H : T3) (b : Int) (z : uS) : Prop := ∃ T : P3, T 0 0 b ∧ ∀ x p q, T x p q → Fe M L x p q ∧ ∃ r S, CHr M L H z x p q r S ∧ (∀ k : Nat, k < (xl M r).toNat → ¬ xy M r k < 100 → T (xy M r k - 100) (S k) (S (k + 1))) ∧ z.1 333 (tix p x q) = nszR M (z.1 333) r S (xl M r).toNat ∧ 1 ≤ z.1 333 (tix p x q)
theorem q_276 {e nv nr n mk : Nat} {u w v : uS} {m b : Int} (hG : GMc u nv nr n mk) (hRG : RGc u nv nr n m) (hE : sideE u nr n mk m) (hF : FT u w nv nr n m) (hS : LHs (mOf u mk nv nr n) (L3 w) (H3 w)) (hv : RFr u w v) (hx : Fe (mOf u mk nv nr n) (L3 w) 0 0 b) (h33 : ∀ t, 0 ≤ t → t < 16000 → cB (v.1 333 t)) : cV (e + 6) 276 [.ref 271, iV m, iV (tix 0 0 b)] v (fun z => z.2 = v.2 ∧ sb1 v z fC ∧ (∀ t, 0 ≤ t → t < 16000 → cB (z.1 333 t)) ∧ RLD (mOf u mk nv nr n) (L3 w) (H3 w) b z) := by
  have hMk := Mok_of hG
  obtain ⟨m1, m2, m3, m4, m5, m6⟩ := id hMk
  have tb : ∀ x p q, Fe (mOf u mk nv nr n) (L3 w) x p q → 0 ≤ tix p x q ∧ tix p x q < 16000 := fun x p q hf => by
    have a1 := hf.1.1
    have a2 := hf.1.2
    have a3 := hf.2.1.1
    have a4 := hf.2.1.2
    have a5 := hf.2.2.1.1
    have a6 := hf.2.2.1.2
    exact tix_R ⟨a3, by omega⟩ ⟨a1, by omega⟩ ⟨a5, by omega⟩
  have ti : ∀ x p q x' p' q', Fe (mOf u mk nv nr n) (L3 w) x p q → Fe (mOf u mk nv nr n) (L3 w) x' p' q' → tix p x q = tix p' x' q' → p = p' ∧ x = x' ∧ q = q' := fun x p q x' p' q' hf hf' h => by
    have a1 := hf.1.1
    have a2 := hf.1.2
    have a5 := hf.2.2.1.1
    have a6 := hf.2.2.1.2
    have b1 := hf'.1.1
    have b2 := hf'.1.2
    have b5 := hf'.2.2.1.1
    have b6 := hf'.2.2.1.2
    exact tix_inj ⟨a1, by omega⟩ ⟨a5, by omega⟩ ⟨b1, by omega⟩ ⟨b5, by omega⟩ h
  generalize hQQ : (fun (z : uS) => z.2 = v.2 ∧ sb1 v z fC ∧ (∀ t, 0 ≤ t → t < 16000 → cB (z.1 333 t)) ∧ RLD (mOf u mk nv nr n) (L3 w) (H3 w) b z) = Q
  generalize hMM : mOf u mk nv nr n = M at *
  generalize hLL : L3 w = L at *
  generalize hHH : H3 w = H at *
  -- the pile
  have pile : ∀ (μ N : Nat) (z : uS), 8 * (16000 - opnC z) + N ≤ μ → z.2 = v.2 → sb1 v z fC → PI M L H (tix 0 0 b) N z → K_276 (e + 5) 41 [.ref 271, iV m, .retAddr 0, iV (N : Int), .retAddr 0, .retAddr 0, .retAddr 0, .retAddr 0, .retAddr 0, .retAddr 0, .retAddr 0, .retAddr 0] [] z Q := by
    intro μ
    induction μ with
    | zero =>
      intro N z hμ z2 zs hP
      obtain ⟨P1, P2, P3, P4, P5, P6⟩ := id hP
      have hN : N = 0 := by omega
      refine k_276_41 ⟨⟨by omega, by omega⟩, ?_⟩
      rw [if_neg (by omega), ← hQQ]
      refine ⟨z2, zs, fun t h0 h1 => (P1 t h0 h1).2.2, fun x p q => Fe M L x p q ∧ z.1 340 (tix p x q) = 1, ⟨hx, ?_⟩, fun x p q ⟨hf, hk⟩ => ?_⟩
      · rcases P6 with h | ⟨i, i0, i1, -⟩
        · exact h
        · omega
      · obtain ⟨r, S, c1, c2, c3, c4⟩ := P3 x p q hf hk
        exact ⟨hf, r, S, c1, fun k hk1 hk2 => ⟨(CH_sub hS hf c1.2.1 hk1 hk2).1, c2 k hk1 hk2⟩, c3, c4⟩
    | succ μ ih =>
      intro N z hμ z2 zs hP
      obtain ⟨P1, P2, P3, P4, P5, P6⟩ := id hP
      have zF : RFr u w z := RFr_tr hv zs
      have ho16 : opnC z ≤ 16000 := ct_le _ _
      by_cases hN : N = 0
      · refine k_276_41 ⟨⟨by omega, by omega⟩, ?_⟩
        rw [if_neg (by omega), ← hQQ]
        refine ⟨z2, zs, fun t h0 h1 => (P1 t h0 h1).2.2, fun x p q => Fe M L x p q ∧ z.1 340 (tix p x q) = 1, ⟨hx, ?_⟩, fun x p q ⟨hf, hk⟩ => ?_⟩
        · rcases P6 with h | ⟨i, i0, i1, -⟩
          · exact h
          · omega
        · obtain ⟨r, S, c1, c2, c3, c4⟩ := P3 x p q hf hk
          exact ⟨hf, r, S, c1, fun k hk1 hk2 => ⟨(CH_sub hS hf c1.2.1 hk1 hk2).1, c2 k hk1 hk2⟩, c3, c4⟩
      · obtain ⟨x, p, q, hf, htop⟩ := P2 ((N : Int) - 1) (by omega) (by omega)
        obtain ⟨t0, t1⟩ := tb x p q hf
        obtain ⟨f1, f2, f3⟩ := P1 _ t0 t1
        have ecast : ((N - 1 : Nat) : Int) = (N : Int) + (-1) := by omega
        refine k_276_41 ⟨⟨by omega, by omega⟩, ?_⟩
        rw [if_pos (by omega), htop]
        refine ⟨by omega, by omega, t0, t1, ⟨by omega, by omega⟩, ?_⟩
        -- grey ones other than the top lie below it
        have below : ∀ x' p' q', Fe M L x' p' q' → z.1 341 (tix p' x' q') = 1 → z.1 340 (tix p' x' q') = 0 → tix p' x' q' ≠ tix p x q → ∃ i : Int, 0 ≤ i ∧ i < (N : Int) - 1 ∧ z.1 339 i = tix p' x' q' ∧ H x p q < H x' p' q' ∧ (∀ j : Int, i < j → j < N → ∀ x'' p'' q'', Fe M L x'' p'' q'' → z.1 339 j = tix p'' x'' q'' → H x'' p'' q'' < H x' p' q') ∧ ∃ r S, CHr M L H z x' p' q' r S ∧ ∀ k : Nat, k < (xl M r).toNat → ¬ xy M r k < 100 → z.1 340 (tpx M r S k) = 1 ∨ ∃ j : Int, i < j ∧ j < N ∧ z.1 339 j = tpx M r S k := fun x' p' q' hf' h1 h2 hne => by
          obtain ⟨i, i0, i1, i2, i3, i4⟩ := P4 x' p' q' hf' h1 h2
          have hi : i ≠ (N : Int) - 1 := fun h => by
            rw [h, htop] at i2
            exact hne i2.symm
          have hlt : i < (N : Int) - 1 := by
            rcases Int.lt_or_le i ((N : Int) - 1) with h | h
            · exact h
            · exact absurd (Int.le_antisymm (Int.le_sub_one_of_lt i1) h) hi
          exact ⟨i, i0, hlt, i2, i3 _ hlt (by clear i4 i3 P6; omega) x p q hf htop, i3, i4⟩
        by_cases c0 : z.1 340 (tix p x q) = 0
        · rw [if_pos c0]
          refine ⟨⟨by omega, by omega⟩, ?_⟩
          by_cases c1 : z.1 341 (tix p x q) = 0
          · -- it is opened
            rw [if_pos c1]
            intro z1 ez1
            have z1s : sb1 v z1 fC := by rw [ez1]; exact sb1_wr zs (by decide)
            have z141 : z1.1 341 = uf (z.1 341) (tix p x q) 1 := by rw [ez1, wr_uf]
            have hq := q_277 (e := e) (v := z1) (m := m) (x := x) (p := p) (q := q) hG hRG hE hF (by rw [hMM, hLL, hHH]; exact hS) (RFr_tr hv z1s) (by rw [hMM, hLL]; exact hf)
            rw [hMM, hLL, hHH] at hq
            refine cV.mono hq (Nat.le_refl _) (fun y ⟨y2, ys, yt, yj, r, S, yc⟩ => ?_)
            obtain ⟨yc1, yc2, yc3, yc4, yc5⟩ := id yc
            have ysz : sb1 v y fC := fun c hc => (ys c (fun hh => hc (by simp only [fC, List.mem_cons, List.not_mem_nil, or_false] at hh ⊢; omega))).trans (z1s c hc)
            have yF : RFr u w y := RFr_tr hv ysz
            have yb : ∀ c, c ≠ 341 → c ≠ 331 → c ≠ 332 → c ≠ 334 → c ≠ 335 → c ≠ 342 → c ≠ 343 → c ≠ 344 → y.1 c = z.1 c := fun c a1 a2 a3 a4 a5 a6 a7 a8 => by
              rw [ys c (by simp only [List.mem_cons, List.not_mem_nil, or_false, not_or]; exact ⟨a2, a3, a4, a5, a6, a7, a8⟩), ez1, wr_ne a1]
            have y40 : y.1 340 = z.1 340 := yb 340 (by decide) (by decide) (by decide) (by decide) (by decide) (by decide) (by decide) (by decide)
            have y33 : y.1 333 = z.1 333 := yb 333 (by decide) (by decide) (by decide) (by decide) (by decide) (by decide) (by decide) (by decide)
            have y39 : y.1 339 = z.1 339 := yb 339 (by decide) (by decide) (by decide) (by decide) (by decide) (by decide) (by decide) (by decide)
            have y41 : y.1 341 = uf (z.1 341) (tix p x q) 1 := (ys 341 (by decide)).trans z141
            have keepC : ∀ x' p' q' r' S', Fe M L x' p' q' → tix p' x' q' ≠ tix p x q → CHr M L H z x' p' q' r' S' → CHr M L H y x' p' q' r' S' := fun x' p' q' r' S' hf' hne hc => by
              obtain ⟨k1, k2, k3⟩ := yt _ hne
              have e1 : z1.1 331 = z.1 331 := by rw [ez1, wr_ne (by decide)]
              have e2 : z1.1 332 = z.1 332 := by rw [ez1, wr_ne (by decide)]
              have e3 : z1.1 334 = z.1 334 := by rw [ez1, wr_ne (by decide)]
              have e4 : z1.1 335 = z.1 335 := by rw [ez1, wr_ne (by decide)]
              refine CHr_of hMk hc (by rw [k1, e1]) (fun j j0 j1 => by rw [yj j (by rcases Int.lt_or_gt_of_ne hne with h | h <;> omega), e2]) (by rw [k2, e3]) (by rw [k3, e4])
            have hop : opnC z + 1 ≤ opnC y := by
              unfold opnC
              rw [y41]
              exact (ct_uf t0 t1).2 c1
            have hoy : opnC y ≤ 16000 := ct_le _ _
            rw [yc1]
            have hr0 := yc2.1
            have hr1 := yc2.2.1
            have hD : RD M r S (tix p x q) y := by
              have er := hE.1 r hr0 (by rw [← hMM] at hr1; exact hr1)
              refine ⟨?_, fun k hk => ?_, yc3⟩
              · rw [yF.2.2.1, er.2.1, ← hMM]
                rfl
              · rw [yF.2.2.2.1]
                rw [← hMM] at hk ⊢
                exact er.2.2 k (by omega) hk
            refine h_psh (e := e + 4) (N := N) hMk hS hf yc2 hD (fun t h0 h1 => by rw [y33, y40]; exact ⟨(P1 t h0 h1).2.2, (P1 t h0 h1).1⟩) ⟨t0, t1⟩ (by omega) (fun N' o n1 n2 o2 os o3 o4 o5 => ?_) (xl M r).toNat 0 N 1 y (by omega) ⟨by omega, by omega⟩ (Nat.le_refl _) (by omega) rfl (sb1_refl _ _) (fun _ _ => rfl) (fun i h1 h2 => by omega) (fun i hi => by omega)
            have osz : sb1 v o fC := fun c hc => (os c (fun hh => hc (by simp only [fC, List.mem_cons, List.not_mem_nil, or_false] at hh ⊢; omega))).trans (ysz c hc)
            have o40 : o.1 340 = z.1 340 := (os 340 (by decide)).trans y40
            have o33 : o.1 333 = z.1 333 := (os 333 (by decide)).trans y33
            have o41 : o.1 341 = uf (z.1 341) (tix p x q) 1 := (os 341 (by decide)).trans y41
            have oCH : ∀ x' p' q' r' S', CHr M L H y x' p' q' r' S' → CHr M L H o x' p' q' r' S' := fun x' p' q' r' S' hc => by
              unfold CHr at hc ⊢
              rw [os 331 (by decide), os 332 (by decide), os 334 (by decide), os 335 (by decide)]
              exact hc
            have oop : opnC o = opnC y := by unfold opnC; rw [os 341 (by decide)]
            have o39 : ∀ i : Int, i < N → o.1 339 i = z.1 339 i := fun i hi => by rw [o3 i hi, y39]
            have part : ∀ j : Int, (N : Int) ≤ j → j < N' → ∀ x' p' q', Fe M L x' p' q' → o.1 339 j = tix p' x' q' → H x' p' q' < H x p q := fun j j1 j2 x' p' q' hf' he => by
              obtain ⟨k, k1, k2, k3⟩ := o4 j j1 j2
              obtain ⟨s1, s2, s3⟩ := CH_sub hS hf yc2 k1 k2
              rw [k3] at he
              obtain ⟨e1, e2, e3⟩ := ti _ _ _ _ _ _ s1 hf' he
              rw [← e1, ← e2, ← e3]
              exact s3
            refine ih N' o (by rw [oop]; omega) (o2.trans (y2.trans (by rw [ez1, wr_2]; exact z2))) osz ⟨fun t h0 h1 => ?_, fun i i0 i1 => ?_, fun x' p' q' hf' hk' => ?_, fun x' p' q' hf' h1 h2 => ?_, by rw [oop]; omega, ?_⟩
            · obtain ⟨a1, a2, a3⟩ := P1 t h0 h1
              rw [o40, o33, o41]
              refine ⟨a1, ?_, a3⟩
              by_cases et : t = tix p x q
              · rw [et, uf_eq]; exact Or.inr rfl
              · rw [uf_ne et]; exact a2
            · rcases Int.lt_or_le i N with h | h
              · rw [o39 i h]
                exact P2 i i0 h
              · obtain ⟨k, k1, k2, k3⟩ := o4 i h i1
                exact ⟨_, _, _, (CH_sub hS hf yc2 k1 k2).1, k3⟩
            · rw [o40] at hk' ⊢
              have hne : tix p' x' q' ≠ tix p x q := fun h => by rw [h, c0] at hk'; omega
              obtain ⟨r', S', c1', c2', c3', c4'⟩ := P3 x' p' q' hf' hk'
              rw [o33]
              exact ⟨r', S', oCH _ _ _ _ _ (keepC _ _ _ _ _ hf' hne c1'), c2', c3', c4'⟩
            · rw [o40] at h2 ⊢
              by_cases et : tix p' x' q' = tix p x q
              · obtain ⟨e1, e2, e3⟩ := ti _ _ _ _ _ _ hf' hf et
                rw [e1, e2, e3]
                refine ⟨(N : Int) - 1, by omega, by omega, by rw [o39 _ (by omega)]; exact htop, fun j j1 j2 => part j (by omega) j2, r, S, oCH _ _ _ _ _ yc, fun k k1 k2 => ?_⟩
                rcases o5 k k1 k2 with h | ⟨j, j1, j2, j3⟩
                · rw [y40] at h
                  exact Or.inl h
                · exact Or.inr ⟨j, by omega, j2, j3⟩
              · rw [o41, uf_ne et] at h1
                obtain ⟨i, i0, i1, i2, i3, i4, r', S', c1', c2'⟩ := below x' p' q' hf' h1 h2 et
                refine ⟨i, i0, by omega, by rw [o39 _ (by omega)]; exact i2, fun j j1 j2 x'' p'' q'' hf'' he => ?_, r', S', oCH _ _ _ _ _ (keepC _ _ _ _ _ hf' et c1'), fun k k1 k2 => ?_⟩
                · rcases Int.lt_or_le j N with h | h
                  · rw [o39 j h] at he
                    exact i4 j j1 h x'' p'' q'' hf'' he
                  · have := part j h j2 x'' p'' q'' hf'' he
                    omega
                · rcases c2' k k1 k2 with h | ⟨j, j1, j2, j3⟩
                  · exact Or.inl h
                  · exact Or.inr ⟨j, j1, by omega, by rw [o39 j j2]; exact j3⟩
            · rcases P6 with h | ⟨i, i0, i1, i2⟩
              · rw [o40]; exact Or.inl h
              · exact Or.inr ⟨i, i0, by omega, by rw [o39 i i1]; exact i2⟩
          · -- it is closed
            rw [if_neg c1]
            obtain ⟨i, i0, i1, i2, i3, r, S, yc, yp⟩ := P4 x p q hf (by omega) c0
            have hi : i = (N : Int) - 1 := by
              rcases Int.lt_or_le i ((N : Int) - 1) with h | h
              · have := i3 ((N : Int) - 1) h (by omega) x p q hf htop
                exact absurd this (Int.lt_irrefl _)
              · exact Int.le_antisymm (Int.le_sub_one_of_lt i1) h
            obtain ⟨yc1, yc2, yc3, yc4, yc5⟩ := id yc
            have pk : ∀ k : Nat, k < (xl M r).toNat → ¬ xy M r k < 100 → z.1 340 (tpx M r S k) = 1 := fun k k1 k2 => by
              rcases yp k k1 k2 with h | ⟨j, j1, j2, -⟩
              · exact h
              · omega
            clear yp P6 i3
            have hr0 := yc2.1
            have hr1 := yc2.2.1
            have hD : RD M r S (tix p x q) z := by
              have er := hE.1 r hr0 (by rw [← hMM] at hr1; exact hr1)
              refine ⟨?_, fun k hk => ?_, yc3⟩
              · rw [zF.2.2.1, er.2.1, ← hMM]
                rfl
              · rw [zF.2.2.2.1]
                rw [← hMM] at hk ⊢
                exact er.2.2 k (by omega) hk
            have hcb : ∀ k : Nat, k < (xl M r).toNat → ¬ xy M r k < 100 → cB (z.1 333 (tpx M r S k)) := fun k k1 k2 => by
              obtain ⟨b0, b1⟩ := tpx_b hMk hS hf yc2 k1 k2
              exact (P1 _ b0 b1).2.2
            have hsz := nszR_b (N := z.1 333) (S := S) (r := r) (M := M) (xl M r).toNat hcb
            rw [yc1]
            refine h_cnt (e := e + 4) (N := (N : Int)) hMk hS hf yc2 hD hcb ⟨t0, t1⟩ ?_ (xl M r).toNat 0 (by omega)
            generalize ho : wr (wr z 333 (tix p x q) (nszR M (z.1 333) r S (xl M r).toNat)) 340 (tix p x q) 1 = o
            have o40 : o.1 340 = uf (z.1 340) (tix p x q) 1 := by rw [← ho, wr_uf, wr_ne (by decide)]
            have o33 : o.1 333 = uf (z.1 333) (tix p x q) (nszR M (z.1 333) r S (xl M r).toNat) := by rw [← ho, wr_ne (by decide), wr_uf]
            have ob : ∀ c, c ≠ 340 → c ≠ 333 → o.1 c = z.1 c := fun c a1 a2 => by rw [← ho, wr_ne a1, wr_ne a2]
            have oCH : ∀ x' p' q' r' S', CHr M L H z x' p' q' r' S' → CHr M L H o x' p' q' r' S' := fun x' p' q' r' S' hc => by
              unfold CHr at hc ⊢
              rw [ob 331 (by decide) (by decide), ob 332 (by decide) (by decide), ob 334 (by decide) (by decide), ob 335 (by decide) (by decide)]
              exact hc
            have oop : opnC o = opnC z := by unfold opnC; rw [ob 341 (by decide) (by decide)]
            have grow : ∀ t, z.1 340 t = 1 → o.1 340 t = 1 := fun t h => by
              rw [o40]
              by_cases et : t = tix p x q
              · rw [et, uf_eq]
              · rw [uf_ne et]; exact h
            rw [← ecast]
            obtain ⟨-, -, -, -, -, P6⟩ := id hP
            refine ih (N - 1) o (by rw [oop]; clear P6; omega) (by rw [← ho, wr_2, wr_2]; exact z2) (by rw [← ho]; exact sb1_wr (sb1_wr zs (by decide)) (by decide)) ⟨fun t h0 h1 => ?_, fun i i0 i1 => ?_, fun x' p' q' hf' hk' => ?_, fun x' p' q' hf' h1 h2 => ?_, by rw [oop]; clear P6; omega, ?_⟩
            · obtain ⟨a1, a2, a3⟩ := P1 t h0 h1
              rw [o40, o33, ob 341 (by decide) (by decide)]
              by_cases et : t = tix p x q
              · rw [et, uf_eq, uf_eq]
                exact ⟨Or.inr rfl, by rw [← et]; exact a2, by clear P6; omega, hsz.2⟩
              · rw [uf_ne et, uf_ne et]
                exact ⟨a1, a2, a3⟩
            · rw [ob 339 (by decide) (by decide)]
              exact P2 i i0 (by clear P6; omega)
            · by_cases et : tix p' x' q' = tix p x q
              · obtain ⟨e1, e2, e3⟩ := ti _ _ _ _ _ _ hf' hf et
                rw [e1, e2, e3]
                have ecn : nszR M (o.1 333) r S (xl M r).toNat = nszR M (z.1 333) r S (xl M r).toNat := nszR_congr _ (fun k k1 k2 => by
                  rw [o33, uf_ne]
                  intro h
                  have := pk k k1 k2
                  rw [h, c0] at this
                  cases this)
                refine ⟨r, S, oCH _ _ _ _ _ yc, fun k k1 k2 => grow _ (pk k k1 k2), ?_, ?_⟩
                · rw [ecn, o33, uf_eq]
                · rw [o33, uf_eq]; exact hsz.1
              · have hk2 : z.1 340 (tix p' x' q') = 1 := by
                  rw [o40, uf_ne et] at hk'
                  exact hk'
                obtain ⟨r', S', c1', c2', c3', c4'⟩ := P3 x' p' q' hf' hk2
                have ecn : nszR M (o.1 333) r' S' (xl M r').toNat = nszR M (z.1 333) r' S' (xl M r').toNat := nszR_congr _ (fun k k1 k2 => by
                  rw [o33, uf_ne]
                  intro h
                  have := c2' k k1 k2
                  rw [h, c0] at this
                  cases this)
                refine ⟨r', S', oCH _ _ _ _ _ c1', fun k k1 k2 => grow _ (c2' k k1 k2), ?_, ?_⟩
                · rw [ecn, o33, uf_ne et]; exact c3'
                · rw [o33, uf_ne et]; exact c4'
            · have et : tix p' x' q' ≠ tix p x q := fun h => by
                rw [o40, h, uf_eq] at h2
                cases h2
              rw [ob 341 (by decide) (by decide)] at h1
              rw [o40, uf_ne et] at h2
              obtain ⟨i', i0', i1', i2', i3', i4', r', S', c1', c2'⟩ := below x' p' q' hf' h1 h2 et
              rw [ob 339 (by decide) (by decide)]
              refine ⟨i', i0', by clear P6 c2'; omega, i2', fun j j1 j2 => i4' j j1 (by clear P6 c2'; omega), r', S', oCH _ _ _ _ _ c1', fun k k1 k2 => ?_⟩
              rcases c2' k k1 k2 with h | ⟨j, j1, j2, j3⟩
              · exact Or.inl (grow _ h)
              · by_cases ej : j = (N : Int) - 1
                · rw [ej, htop] at j3
                  refine Or.inl ?_
                  rw [← j3, o40, uf_eq]
                · exact Or.inr ⟨j, j1, by clear P6; omega, j3⟩
            · rcases P6 with h | ⟨i', i0', i1', i2'⟩
              · exact Or.inl (grow _ h)
              · by_cases ej : i' = (N : Int) - 1
                · rw [ej, htop] at i2'
                  refine Or.inl ?_
                  rw [← i2', o40, uf_eq]
                · exact Or.inr ⟨i', i0', by omega, by rw [ob 339 (by decide) (by decide)]; exact i2'⟩
        · -- it is known
          rw [if_neg c0, ← ecast]
          have hk1 : z.1 340 (tix p x q) = 1 := by
            rcases f1 with h | h
            · exact absurd h c0
            · exact h
          refine ih (N - 1) z (by clear P6; omega) z2 zs ⟨P1, fun i i0 i1 => P2 i i0 (by clear P6; omega), P3, fun x' p' q' hf' h1 h2 => ?_, by clear P6; omega, ?_⟩
          · have et : tix p' x' q' ≠ tix p x q := fun h => by
              rw [h] at h2
              exact c0 h2
            obtain ⟨i', i0', i1', i2', i3', i4', r', S', c1', c2'⟩ := below x' p' q' hf' h1 h2 et
            refine ⟨i', i0', by clear P6 c2'; omega, i2', fun j j1 j2 => i4' j j1 (by clear P6 c2'; omega), r', S', c1', fun k k1 k2 => ?_⟩
            rcases c2' k k1 k2 with h | ⟨j, j1, j2, j3⟩
            · exact Or.inl h
            · by_cases ej : j = (N : Int) - 1
              · rw [ej, htop] at j3
                exact Or.inl (by rw [← j3]; exact hk1)
              · exact Or.inr ⟨j, j1, by clear P6; omega, j3⟩
          · rcases P6 with h | ⟨i', i0', i1', i2'⟩
            · exact Or.inl h
            · by_cases ej : i' = (N : Int) - 1
              · rw [ej, htop] at i2'
                exact Or.inl (by rw [← i2']; exact hk1)
              · exact Or.inr ⟨i', i0', by omega, i2'⟩
  -- all flags go
  have zero : ∀ (n' i : Nat) (z : uS), i + n' = 16000 → z.2 = v.2 → sb1 v z [340, 341] → (∀ t : Int, 0 ≤ t → t < i → z.1 340 t = 0 ∧ z.1 341 t = 0) → K_276 (e + 5) 2 [.ref 271, iV m, iV (tix 0 0 b), iV (i : Int), .retAddr 0, .retAddr 0, .retAddr 0, .retAddr 0, .retAddr 0, .retAddr 0, .retAddr 0, .retAddr 0] [] z Q := by
    intro n'
    induction n' with
    | zero =>
      intro i z hi z2 zs zz
      refine k_276_2 ⟨⟨by omega, by omega⟩, ?_⟩
      rw [if_neg (by omega)]
      intro y ey
      have y39 : y.1 339 = uf (z.1 339) 0 (tix 0 0 b) := by rw [ey, wr_uf]
      have yb : ∀ c, c ≠ 339 → y.1 c = z.1 c := fun c a1 => by rw [ey, wr_ne a1]
      have hP : PI M L H (tix 0 0 b) 1 y := by
        refine ⟨fun t h0 h1 => ?_, fun j j0 j1 => ⟨0, 0, b, hx, ?_⟩, fun x p q hf hk => ?_, fun x p q hf hk => ?_, by omega, Or.inr ⟨0, by omega, by omega, by rw [y39, uf_eq]⟩⟩
        · obtain ⟨a1, a2⟩ := zz t h0 (by omega)
          rw [yb 340 (by decide), yb 341 (by decide), yb 333 (by decide), zs 333 (by decide)]
          exact ⟨Or.inl a1, Or.inl a2, h33 t h0 h1⟩
        · rw [y39, show j = 0 by omega, uf_eq]
        · obtain ⟨t0, t1⟩ := tb x p q hf
          rw [yb 340 (by decide), (zz _ t0 (by omega)).1] at hk
          exact absurd hk (by decide)
        · obtain ⟨t0, t1⟩ := tb x p q hf
          rw [yb 341 (by decide), (zz _ t0 (by omega)).2] at hk
          exact absurd hk (by decide)
      have := pile (8 * 16000 + 1) 1 y (by have : opnC y ≤ 16000 := ct_le _ _; omega) (by rw [ey, wr_2]; exact z2) (by rw [ey]; exact sb1_wr (sb1_sub zs (by decide)) (by decide)) hP
      exact this
    | succ n' ih =>
      intro i z hi z2 zs zz
      refine k_276_2 ⟨⟨by omega, by omega⟩, ?_⟩
      rw [if_pos (by omega)]
      refine ⟨by omega, fun a ea c ec => ?_⟩
      have c40 : c.1 340 = uf (z.1 340) (i : Int) 0 := by rw [ec, wr_ne (by decide), ea, wr_uf]
      have c41 : c.1 341 = uf (z.1 341) (i : Int) 0 := by rw [ec, wr_uf, ea, wr_ne (by decide)]
      have := ih (i + 1) c (by omega) (by rw [ec, wr_2, ea, wr_2]; exact z2) (by rw [ec, ea]; exact sb1_wr (sb1_wr zs (by decide)) (by decide)) (fun t h0 h1 => by
        rw [c40, c41]
        by_cases et : t = i
        · rw [et, uf_eq, uf_eq]; exact ⟨rfl, rfl⟩
        · rw [uf_ne et, uf_ne et]
          exact zz t h0 (by omega))
      rw [show ((i + 1 : Nat) : Int) = (i : Int) + 1 by omega] at this
      exact this
  exact e_276 (zero 16000 0 v (by omega) rfl (sb1_refl _ _) (fun t h0 h1 => by omega))
