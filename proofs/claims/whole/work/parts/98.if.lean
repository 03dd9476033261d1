/-! The other side: numbers of empty trees -/
theorem bd_no {n : Nat} {R G : Int → Int → Prop} (h : tcR n R G) {x : Int} (hx : iR n x) (hn : ∀ y, iR n y → ¬ R x y) : ¬ bd n G x := by
  rintro ⟨c, hc, h1, h2⟩
  have : G x c := by
    rcases h1 with e | e
    · rw [e] at h2 ⊢; exact h2
    · exact e
  obtain ⟨y, hy, hR, -⟩ := tc_dec h hx hc this
  exact hn y hy hR
theorem em_0 {g : Gm} (hg : gK g) {x : Int} (hx : iR (gv g) x) (hb : ¬ gb g x) : em g x = 0 := by
  have no : ∀ r : Int, 0 ≤ r → r < gr g → gh g r = x → ¬ bR g r := fun r r0 r1 e h => hb (by rw [← e]; exact hg.2.2.2 r r0 r1 h)
  have hbd := bd_no (tcl_tc (gv g) (eR g)) hx (fun y _ hR => by
    obtain ⟨r, r0, r1, e, h, -⟩ := hR
    exact no r r0 r1 e h)
  rw [(em_sol g hg x hx).2 hbd]
  refine (su_z _ (fun r _ => ?_)).mpr (fun r hr => if_neg (fun h => ?_))
  · show cv (if _ then _ else _)
    split
    · exact pr_cv _ (fun k _ => em_cv g _)
    · exact cv_0
  · have := pd_t.mp h
    exact no r (by omega) (by omega) this.1 this.2
theorem q_224 {d : Nat} {u : uS} {g : Gm} (hg : gK g) (hA : rA u g) : cV (d + 2) 224 [.ref 271] u (fun u' => u'.2 = u.2 ∧ sb1 u u' [271, 292, 293, 294, 295] ∧ (∀ i : Int, i ≠ 33 → u'.1 271 i = u.1 271 i) ∧ ∀ x, iR (gv g) x → u'.1 292 x = em g x) := by
  obtain ⟨g1, g2, g3, g4⟩ := id hg
  obtain ⟨a1, a2, a3, a4⟩ := id hA
  generalize hQQ : (fun u' : uS => u'.2 = u.2 ∧ sb1 u u' [271, 292, 293, 294, 295] ∧ (∀ i : Int, i ≠ 33 → u'.1 271 i = u.1 271 i) ∧ ∀ x, iR (gv g) x → u'.1 292 x = em g x) = Q
  let Fr : uS → Prop := fun v => v.2 = u.2 ∧ sb1 u v [271, 292, 293, 294, 295] ∧ ∀ i : Int, i ≠ 33 → v.1 271 i = u.1 271 i
  have frA : ∀ v, Fr v → rA v g := fun v hv => rA_of hA (hv.2.2 5 (by decide)) (hv.2.2 6 (by decide)) (hv.2.1 _ (by decide)) (hv.2.1 _ (by decide)) (hv.2.1 _ (by decide)) (hv.2.1 _ (by decide))
  have frW : ∀ (v : uS) (b : Nat) (i c : Int), Fr v → b ∈ [292, 293] → Fr (wr v b i c) := fun v b i c hv hb => by
    refine ⟨by rw [wr_2]; exact hv.1, sb1_wr hv.2.1 ?_, fun j hj => ?_⟩
    · simp only [List.mem_cons, List.not_mem_nil, or_false] at hb ⊢
      omega
    · rw [wr_ne (by simp only [List.mem_cons, List.not_mem_nil, or_false] at hb; omega)]
      exact hv.2.2 j hj
  -- the values, in order
  have vals : ∀ (m : Nat) (ord : Int → Int), m ≤ gv g → (∀ i : Nat, i < m → iR (gv g) (ord i) ∧ ¬ bd (gv g) (tcl (gv g) (eR g)) (ord i) ∧ ∀ y, iR (gv g) y → eR g (ord i) y → ∃ j : Nat, j < i ∧ ord j = y) → (∀ x, iR (gv g) x → gb g x → (∀ i : Nat, i < m → ord i ≠ x) → em g x = 5000000000000000000) → ∀ (k : Nat) (o : Nat) (v : uS), o + k = m → Fr v → v.1 271 33 = m → v.1 295 = ord → (∀ i : Nat, i < o → v.1 292 (ord i) = em g (ord i)) → (∀ x, iR (gv g) x → ¬ gb g x → v.1 292 x = 0) → (∀ x, iR (gv g) x → gb g x → (∀ i : Nat, i < m → ord i ≠ x) → v.1 292 x = 5000000000000000000) → (∀ x, iR (gv g) x → cv (v.1 292 x)) → K_224 (d + 1) 147 [.ref 271, iV (o : Int), .retAddr 0, .retAddr 0, .retAddr 0, .retAddr 0, .retAddr 0, .retAddr 0, .retAddr 0] [] v Q := by
    intro m ord hm hord hleft k
    induction k with
    | zero =>
      intro o v ho hF h33 h95 v1 v2 v3 v4
      refine k_224_147 ⟨⟨by omega, by omega⟩, ?_⟩
      rw [h33]
      refine ⟨⟨by omega, by omega⟩, ?_⟩
      rw [if_neg (by omega), ← hQQ]
      refine ⟨hF.1, hF.2.1, hF.2.2, fun x hx => ?_⟩
      by_cases hb : gb g x
      · by_cases hi : ∀ i : Nat, i < m → ord i ≠ x
        · rw [v3 x hx hb hi, hleft x hx hb hi]
        · have : ∃ i : Nat, i < m ∧ ord i = x := by
            by_cases hh : ∃ i : Nat, i < m ∧ ord i = x
            · exact hh
            · exact absurd (fun i hi' e => hh ⟨i, hi', e⟩) hi
          obtain ⟨i, hi', e⟩ := this
          rw [← e]
          exact v1 i (by omega)
      · rw [v2 x hx hb, em_0 hg hx hb]
    | succ k ih =>
      intro o v ho hF h33 h95 v1 v2 v3 v4
      obtain ⟨o1, o2, o3⟩ := hord o (by omega)
      have o10 := o1.1
      have o11 := o1.2
      refine k_224_147 ⟨⟨by omega, by omega⟩, ?_⟩
      rw [h33]
      refine ⟨⟨by omega, by omega⟩, ?_⟩
      rw [if_pos (by omega)]
      refine ⟨by omega, by omega, ?_⟩
      have eord : v.1 295 (o : Int) = ord o := by rw [h95]
      rw [eord]
      generalize hx : ord o = x at o1 o2 o3 o10 o11
      obtain ⟨b1, b2, b3, b4⟩ := frA v hF
      have rules : ∀ (k' : Nat) (r : Nat), r + k' = gr g → K_224 (d + 1) 167 [.ref 271, iV (o : Int), iV x, lV (su (fun r => if pd (gh g r = x ∧ bR g r) = true then pr (fun k => v.1 292 (gy g r k - 100)) (gl g r).toNat else 0) r), .retAddr 0, iV (r : Int), .retAddr 0, .retAddr 0, .retAddr 0] [] v Q := by
        intro k'
        induction k' with
        | zero =>
          intro r hr
          refine k_224_167 ⟨⟨by omega, by omega⟩, ?_⟩
          rw [b2]
          refine ⟨⟨by omega, by omega⟩, ?_⟩
          rw [if_neg (by omega)]
          refine ⟨by omega, by omega, fun w e => ?_⟩
          have hval : su (fun r => if pd (gh g r = x ∧ bR g r) = true then pr (fun k => v.1 292 (gy g r k - 100)) (gl g r).toNat else 0) r = em g x := by
            rw [(em_sol g hg x o1).2 o2, show r = gr g by omega]
            exact eΦ_dep g hg (v.1 292) (em g) x o1 (fun y hy hR => by
              obtain ⟨j, hj, ej⟩ := o3 y hy hR
              rw [← ej]
              exact v1 j hj)
          have w92 : w.1 292 = uf (v.1 292) x (em g x) := by rw [e, wr_uf, hval]
          have := ih (o + 1) w (by omega) (by rw [e]; exact frW v 292 _ _ hF (by decide)) (by rw [e, wr_ne (by omega)]; exact h33) (by rw [e, wr_ne (by omega)]; exact h95) (fun i hi => ?_) (fun z hz hb => ?_) (fun z hz hb hi => ?_) (fun z hz => ?_)
          · rw [Int.natCast_succ] at this
            exact this
          · rw [w92]
            by_cases ei : ord i = x
            · rw [ei, uf_eq]
            · rw [uf_ne ei]
              refine v1 i ?_
              have : i ≠ o := fun h => ei (by rw [h]; exact hx)
              omega
          · rw [w92]
            by_cases ez : z = x
            · rw [ez, uf_eq, ← ez]; exact em_0 hg hz hb
            · rw [uf_ne ez]; exact v2 z hz hb
          · rw [w92]
            by_cases ez : z = x
            · exact absurd (by rw [hx, ez]) (hi o (by omega))
            · rw [uf_ne ez]; exact v3 z hz hb hi
          · rw [w92]
            by_cases ez : z = x
            · rw [ez, uf_eq]; exact em_cv g x
            · rw [uf_ne ez]; exact v4 z hz
        | succ k' ih' =>
          intro r hr
          obtain ⟨x1, x2, x3, x4⟩ := g3 r (by omega) (by omega)
          obtain ⟨y1, y2, y3⟩ := b3 r (by omega) (by omega)
          have x10 := x1.1
          have x11 := x1.2
          refine k_224_167 ⟨⟨by omega, by omega⟩, ?_⟩
          rw [b2]
          refine ⟨⟨by omega, by omega⟩, ?_⟩
          rw [if_pos (by omega), y1]
          refine ⟨by omega, by omega, ⟨by omega, by omega⟩, ⟨by omega, by omega⟩, ?_⟩
          have hcvs : ∀ n : Nat, n ≤ gr g → cv (su (fun r => if pd (gh g r = x ∧ bR g r) = true then pr (fun k => v.1 292 (gy g r k - 100)) (gl g r).toNat else 0) n) := fun n hn => su_cv n (fun i hi => by
            show cv (if _ then _ else _)
            by_cases c : gh g i = x ∧ bR g i
            · rw [if_pos (pd_t.mpr c)]
              refine pr_cv _ (fun k hk => v4 _ ?_)
              have h1 := (c.2 k (by omega) (by omega)).1
              have h2 := (g3 i (by omega) (by omega)).2.2.2 k (by omega) (by omega)
              rcases h2 with z | z
              · omega
              · exact ⟨by omega, by omega⟩
            · rw [if_neg (fun h => c (pd_t.mp h))]; exact cv_0)
          have skip : ¬ (gh g r = x ∧ bR g r) → K_224 (d + 1) 167 [.ref 271, iV (o : Int), iV x, lV (su (fun r => if pd (gh g r = x ∧ bR g r) = true then pr (fun k => v.1 292 (gy g r k - 100)) (gl g r).toNat else 0) r), .retAddr 0, iV ((r : Int) + 1), .retAddr 0, .retAddr 0, .retAddr 0] [] v Q := by
            intro hn
            have := ih' (r + 1) (by omega)
            simp only [su] at this
            rw [if_neg (fun h => hn (pd_t.mp h)), sP_0 (hcvs r (by omega)), Int.natCast_succ] at this
            exact this
          by_cases ex : gh g r = x
          · rw [if_pos ex]
            refine cI.mono (q_225 (d := d) hg (frA v hF) (r := (r : Int)) (by omega) (by omega)) (Nat.le_refl _) (fun c w ⟨ew, hc⟩ => ?_)
            rw [ew]
            rcases hc with ⟨e, hb⟩ | ⟨e, hb⟩
            · rw [e]
              refine ⟨by decide, ?_⟩
              rw [if_neg (by decide)]
              have hsy : ∀ k : Nat, (k : Int) < gl g r → iR (gv g) (gy g r k - 100) ∧ 100 ≤ gy g r k := fun k hk => by
                have h1 := (hb k (by omega) (by omega)).1
                rcases x4 k (by omega) (by omega) with z | z
                · omega
                · exact ⟨⟨by omega, by omega⟩, h1⟩
              have prods : ∀ (n k : Nat), (k : Int) + n = gl g r → K_224 (d + 1) 202 [.ref 271, iV (o : Int), iV x, lV (su (fun r => if pd (gh g r = x ∧ bR g r) = true then pr (fun k => v.1 292 (gy g r k - 100)) (gl g r).toNat else 0) r), .retAddr 0, iV (r : Int), lV (pr (fun k => v.1 292 (gy g r k - 100)) k), .retAddr 0, iV (k : Int)] [] v Q := by
                intro n
                induction n with
                | zero =>
                  intro k hk
                  refine k_224_202 ⟨by omega, by omega, ⟨by omega, by omega⟩, ?_⟩
                  rw [y2]
                  refine ⟨⟨by omega, by omega⟩, ?_⟩
                  rw [if_neg (by omega)]
                  refine ⟨hcvs r (by omega), pr_cv _ (fun i hi => v4 _ (hsy i (by omega)).1), ?_⟩
                  have := ih' (r + 1) (by omega)
                  simp only [su] at this
                  rw [if_pos (pd_t.mpr ⟨ex, hb⟩), Int.natCast_succ, show (gl g r).toNat = k by omega] at this
                  exact this
                | succ n ihn =>
                  intro k hk
                  obtain ⟨h1, h2⟩ := hsy k (by omega)
                  have h10 := h1.1
                  have h11 := h1.2
                  refine k_224_202 ⟨by omega, by omega, ⟨by omega, by omega⟩, ?_⟩
                  rw [y2]
                  refine ⟨⟨by omega, by omega⟩, ?_⟩
                  rw [if_pos (by omega), y3 k (by omega) (by omega)]
                  refine ⟨by omega, by omega, by omega, by omega, pr_cv _ (fun i hi => v4 _ (hsy i (by omega)).1), v4 _ h1, ?_⟩
                  have := ihn (k + 1) (by omega)
                  simp only [pr] at this
                  rw [Int.natCast_succ] at this
                  exact this
              exact prods (gl g r).toNat 0 (by omega)
            · rw [e]
              refine ⟨by decide, ?_⟩
              rw [if_pos rfl]
              exact skip (fun h => hb h.2)
          · rw [if_neg ex]
            exact skip (fun h => ex h.1)
      exact rules (gr g) 0 (by omega)
  -- no end, or none
  have init : ∀ (m : Nat) (ord : Int → Int), m ≤ gv g → (∀ i : Nat, i < m → iR (gv g) (ord i) ∧ ¬ bd (gv g) (tcl (gv g) (eR g)) (ord i) ∧ ∀ y, iR (gv g) y → eR g (ord i) y → ∃ j : Nat, j < i ∧ ord j = y) → (∀ x, iR (gv g) x → gb g x → (∀ i : Nat, i < m → ord i ≠ x) → em g x = 5000000000000000000) → ∀ (k : Nat) (x : Int) (v : uS), 0 ≤ x → x + k = 10 → Fr v → v.1 271 33 = m → v.1 295 = ord → (∀ x', 0 ≤ x' → x' < x → iR (gv g) x' → (gb g x' → v.1 292 x' = 5000000000000000000) ∧ (¬ gb g x' → v.1 292 x' = 0)) → K_224 (d + 1) 103 [.ref 271, iV x, .retAddr 0, .retAddr 0, .retAddr 0, .retAddr 0, .retAddr 0, .retAddr 0, .retAddr 0] [] v Q := by
    intro m ord hm hord hleft k
    induction k with
    | zero =>
      intro x v x0 xe hF h33 h95 h92
      refine k_224_103 ⟨⟨by omega, by omega⟩, ?_⟩
      rw [if_neg (by omega)]
      refine vals m ord hm hord hleft m 0 v (by omega) hF h33 h95 (fun i hi => by omega) (fun z hz hb => (h92 z hz.1 (by have := hz.2; omega) hz).2 hb) (fun z hz hb _ => (h92 z hz.1 (by have := hz.2; omega) hz).1 hb) (fun z hz => ?_)
      by_cases hb : gb g z
      · rw [(h92 z hz.1 (by have := hz.2; omega) hz).1 hb]; exact cv_E
      · rw [(h92 z hz.1 (by have := hz.2; omega) hz).2 hb]; exact cv_0
    | succ k ih =>
      intro x v x0 xe hF h33 h95 h92
      obtain ⟨b1, b2, b3, b4⟩ := frA v hF
      refine k_224_103 ⟨⟨by omega, by omega⟩, ?_⟩
      rw [if_pos (by omega), b1]
      refine ⟨⟨by omega, by omega⟩, ?_⟩
      have go : ∀ c : Int, (iR (gv g) x → (gb g x → c = 5000000000000000000) ∧ (¬ gb g x → c = 0)) → ∀ w : uS, w = wr v 292 x c → K_224 (d + 1) 103 [.ref 271, iV (x + 1), .retAddr 0, .retAddr 0, .retAddr 0, .retAddr 0, .retAddr 0, .retAddr 0, .retAddr 0] [] w Q := by
        intro c hc w e
        refine ih (x + 1) w (by omega) (by omega) (by rw [e]; exact frW v 292 _ _ hF (by decide)) (by rw [e, wr_ne (by omega)]; exact h33) (by rw [e, wr_ne (by omega)]; exact h95) (fun x' z0 z1 hz => ?_)
        rw [e, wr_uf]
        by_cases ex : x' = x
        · rw [ex, uf_eq]; rw [ex] at hz; exact hc hz
        · rw [uf_ne ex]; exact h92 x' z0 (by omega) hz
      by_cases hx : x < gv g
      · rw [if_pos hx]
        obtain ⟨c1, c2⟩ := b4 x ⟨x0, hx⟩
        refine ⟨x0, by rcases c1 with z | z <;> rw [z] <;> decide, ?_⟩
        by_cases h0 : v.1 285 x = 0
        · rw [if_pos h0]
          exact go 0 (fun _ => ⟨fun h => absurd h0 (c2.mpr h), fun _ => rfl⟩)
        · rw [if_neg h0]
          exact go 5000000000000000000 (fun _ => ⟨fun _ => rfl, fun h => absurd (c2.mp h0) h⟩)
      · rw [if_neg hx]
        exact ⟨x0, go 0 (fun h => absurd h.2 hx)⟩
  -- the edges
  let Ed : Int → Int → Int → Prop := fun r k j => ∃ r' k' : Int, 0 ≤ r' ∧ r' < gr g ∧ 0 ≤ k' ∧ k' < gl g r' ∧ (r' < r ∨ r' = r ∧ k' < k) ∧ bR g r' ∧ j = 10 * gh g r' + gy g r' k' - 100
  let EO : uS → Int → Int → Prop := fun v r k => ∀ j : Int, 0 ≤ j → j < 100 → (v.1 293 j = 0 ∨ v.1 293 j = 1) ∧ (v.1 293 j ≠ 0 ↔ Ed r k j)
  have edges : ∀ (k : Nat) (r : Nat) (v : uS), r + k = gr g → Fr v → EO v r 0 → K_224 (d + 1) 23 [.ref 271, iV (r : Int), .retAddr 0, .retAddr 0, .retAddr 0, .retAddr 0, .retAddr 0, .retAddr 0, .retAddr 0] [] v Q := by
    intro k
    induction k with
    | zero =>
      intro r v hr hF hE
      obtain ⟨b1, b2, b3, b4⟩ := frA v hF
      refine k_224_23 ⟨⟨by omega, by omega⟩, ?_⟩
      rw [b2]
      refine ⟨⟨by omega, by omega⟩, ?_⟩
      rw [if_neg (by omega)]
      refine cV.mono (q_226 (d := d) (a := 285) (nv := gv g) sx_285 (Or.inl rfl) g1 b1 (fun x hx => (b4 x hx).1) (fun j j0 j1 => (hE j j0 j1).1)) (Nat.le_refl _) (fun w ⟨w1, w2, w3, m, w4, w5, w6⟩ => ?_)
      have hFw : Fr w := ⟨w1.trans hF.1, fun b hb => (w2 b (fun hh => hb (by simp only [List.mem_cons, List.not_mem_nil, or_false] at hh ⊢; omega))).trans (hF.2.1 b hb), fun i hi => (w3 i hi).trans (hF.2.2 i hi)⟩
      have eER : ∀ x y, iR (gv g) x → iR (gv g) y → (v.1 293 (10 * x + y) ≠ 0 ↔ eR g x y) := fun x y hx hy => by
        have hx0 := hx.1
        have hx1 := hx.2
        have hy0 := hy.1
        have hy1 := hy.2
        rw [(hE (10 * x + y) (by omega) (by omega)).2]
        constructor
        · rintro ⟨r', k', q1, q2, q3, q4, q5, q6, q7⟩
          have z1 := (g3 r' q1 q2).1
          have z10 := z1.1
          have z11 := z1.2
          have z2 := (q6 k' q3 q4).1
          have z3 : gy g r' k' < 100 + gv g := by rcases (g3 r' q1 q2).2.2.2 k' q3 q4 with z | z <;> omega
          exact ⟨r', q1, q2, by omega, q6, k', q3, q4, by omega⟩
        · rintro ⟨r', q1, q2, q3, q6, k', q4, q5, q7⟩
          exact ⟨r', k', q1, q2, q4, q5, Or.inl (by omega), q6, by omega⟩
      have hgb : ∀ x y, eR g x y → gb g y := fun x y ⟨r', q1, q2, q3, q6, k', q4, q5, q7⟩ => by
        have := (q6 k' q4 q5).2
        rw [show gy g r' k' - 100 = y by omega] at this
        exact this
      have hgx : ∀ x y, eR g x y → gb g x := fun x y ⟨r', q1, q2, q3, q6, _⟩ => by
        rw [← q3]
        exact g4 r' q1 q2 q6
      have hb' := fun x (hx : iR (gv g) x) => (b4 x hx).2
      have hsu : ∀ i : Nat, i < m → iR (gv g) (w.1 295 i) ∧ ∀ y, iR (gv g) y → eR g (w.1 295 i) y → ∃ j : Nat, j < i ∧ w.1 295 j = y := fun i hi => by
        obtain ⟨q1, q2, q3⟩ := w6.1 i hi
        exact ⟨q1, fun y hy hR => q3 y hy ((eER _ y q1 hy).mpr hR) ((hb' y hy).mpr (hgb _ _ hR))⟩
      have hnb := ord_bd (tcl_tc (gv g) (eR g)) (ord := fun i => w.1 295 i) (fun i hi => (hsu i hi).1) (fun i hi => (hsu i hi).2)
      refine init m (w.1 295) w4 (fun i hi => ⟨(hsu i hi).1, hnb i hi, (hsu i hi).2⟩) (fun x hx hgx' hno => ?_) 10 0 w (Int.le_refl 0) (by omega) hFw w5 rfl (fun x' z0 z1 => by omega)
      refine (em_sol g hg x hx).1 (left_bd (tcl_tc (gv g) (eR g)) (U := fun x => gb g x ∧ ∀ i : Nat, i < m → w.1 295 i ≠ x) (fun x hx hU => ?_) x hx ⟨hgx', hno⟩)
      obtain ⟨y, hy, q1, q2, q3⟩ := w6.2 x hx ((hb' x hx).mpr hU.1) hU.2
      exact ⟨y, hy, (eER x y hx hy).mp q1, (hb' y hy).mp q2, q3⟩
    | succ k ih =>
      intro r v hr hF hE
      obtain ⟨b1, b2, b3, b4⟩ := frA v hF
      refine k_224_23 ⟨⟨by omega, by omega⟩, ?_⟩
      rw [b2]
      refine ⟨⟨by omega, by omega⟩, ?_⟩
      rw [if_pos (by omega)]
      obtain ⟨x1, x2, x3, x4⟩ := g3 r (by omega) (by omega)
      have x10 := x1.1
      have x11 := x1.2
      have next : ∀ (w : uS) (kk : Int), Fr w → EO w r kk → (bR g r → gl g r ≤ kk) → 0 ≤ kk → K_224 (d + 1) 23 [.ref 271, iV ((r : Int) + 1), .retAddr 0, .retAddr 0, .retAddr 0, .retAddr 0, .retAddr 0, .retAddr 0, .retAddr 0] [] w Q := by
        intro w kk hFw hEw hk kk0
        have := ih (r + 1) w (by omega) hFw (fun j j0 j1 => ⟨(hEw j j0 j1).1, ?_⟩)
        · rw [Int.natCast_succ] at this
          exact this
        · rw [(hEw j j0 j1).2, Int.natCast_succ]
          constructor
          · rintro ⟨r', k', q1, q2, q3, q4, q5, q6, q7⟩
            exact ⟨r', k', q1, q2, q3, q4, Or.inl (by omega), q6, q7⟩
          · rintro ⟨r', k', q1, q2, q3, q4, q5, q6, q7⟩
            by_cases e : r' = r
            · rw [e] at q4 q6
              have := hk q6
              exact ⟨r', k', q1, q2, q3, by rw [e]; exact q4, Or.inr ⟨e, by omega⟩, by rw [e]; exact q6, q7⟩
            · exact ⟨r', k', q1, q2, q3, q4, Or.inl (by omega), q6, q7⟩
      have syms : ∀ (n k' : Nat) (w : uS), (k' : Int) + n = gl g r → Fr w → EO w r k' → K_224 (d + 1) 33 [.ref 271, iV (r : Int), iV (k' : Int), .retAddr 0, .retAddr 0, .retAddr 0, .retAddr 0, .retAddr 0, .retAddr 0] [] w Q := by
        intro n
        induction n with
        | zero =>
          intro k' w hk' hFw hEw
          obtain ⟨c1, c2, c3, c4⟩ := frA w hFw
          obtain ⟨y1, y2, y3⟩ := c3 r (by omega) (by omega)
          refine k_224_33 ⟨by omega, by omega, ⟨by omega, by omega⟩, ?_⟩
          rw [y2]
          refine ⟨⟨by omega, by omega⟩, ?_⟩
          rw [if_neg (by omega)]
          exact next w k' hFw hEw (fun _ => by omega) (by omega)
        | succ n ihn =>
          intro k' w hk' hFw hEw
          obtain ⟨c1, c2, c3, c4⟩ := frA w hFw
          obtain ⟨y1, y2, y3⟩ := c3 r (by omega) (by omega)
          refine k_224_33 ⟨by omega, by omega, ⟨by omega, by omega⟩, ?_⟩
          rw [y2]
          refine ⟨⟨by omega, by omega⟩, ?_⟩
          rw [if_pos (by omega)]
          refine cI.mono (q_225 (d := d) hg (frA w hFw) (r := (r : Int)) (by omega) (by omega)) (Nat.le_refl _) (fun c w' ⟨ew, hc⟩ => ?_)
          rw [ew]
          rcases hc with ⟨e, hb⟩ | ⟨e, hb⟩
          · rw [e]
            refine ⟨by decide, ?_⟩
            rw [if_neg (by decide), y1, y3 k' (by omega) (by omega)]
            have z2 := (hb k' (by omega) (by omega)).1
            have z3 : gy g r k' < 100 + gv g := by rcases x4 k' (by omega) (by omega) with z | z <;> omega
            refine ⟨by omega, by omega, by omega, by omega, fun w2 e2 => ?_⟩
            have := ihn (k' + 1) w2 (by omega) (by rw [e2]; exact frW w 293 _ _ hFw (by decide)) (fun j j0 j1 => ?_)
            · rw [Int.natCast_succ] at this
              exact this
            · rw [e2, wr_uf]
              by_cases ej : j = 10 * gh g r + gy g r k' - 100
              · rw [ej, uf_eq]
                refine ⟨Or.inr rfl, fun _ => ⟨r, k', by omega, by omega, by omega, by omega, Or.inr ⟨rfl, by omega⟩, hb, rfl⟩, fun _ => by decide⟩
              · rw [uf_ne ej]
                refine ⟨(hEw j j0 j1).1, ?_⟩
                rw [(hEw j j0 j1).2]
                constructor
                · rintro ⟨r', k'', q1, q2, q3, q4, q5, q6, q7⟩
                  exact ⟨r', k'', q1, q2, q3, q4, by omega, q6, q7⟩
                · rintro ⟨r', k'', q1, q2, q3, q4, q5, q6, q7⟩
                  refine ⟨r', k'', q1, q2, q3, q4, ?_, q6, q7⟩
                  by_cases e3 : r' = r ∧ k'' = k'
                  · rw [e3.1, e3.2] at q7
                    exact absurd q7 ej
                  · omega
          · rw [e]
            refine ⟨by decide, ?_⟩
            rw [if_pos rfl]
            exact next w k' hFw hEw (fun h => absurd h hb) (by omega)
      exact syms (gl g r).toNat 0 v (by omega) hF hE
  have clear : ∀ (k : Nat) (j : Int) (v : uS), 0 ≤ j → j + k = 100 → Fr v → (∀ i : Int, 0 ≤ i → i < j → v.1 293 i = 0) → K_224 (d + 1) 2 [.ref 271, iV j, .retAddr 0, .retAddr 0, .retAddr 0, .retAddr 0, .retAddr 0, .retAddr 0, .retAddr 0] [] v Q := by
    intro k
    induction k with
    | zero =>
      intro j v j0 je hF h0
      refine k_224_2 ⟨⟨by omega, by omega⟩, ?_⟩
      rw [if_neg (by omega)]
      refine edges (gr g) 0 v (by omega) hF (fun i i0 i1 => ?_)
      rw [h0 i i0 (by omega)]
      refine ⟨Or.inl rfl, fun h => absurd rfl h, ?_⟩
      rintro ⟨r', k', q1, q2, q3, q4, q5, -⟩
      omega
    | succ k ih =>
      intro j v j0 je hF h0
      refine k_224_2 ⟨⟨by omega, by omega⟩, ?_⟩
      rw [if_pos (by omega)]
      refine ⟨j0, fun w e => ih (j + 1) w (by omega) (by omega) (by rw [e]; exact frW v 293 _ _ hF (by decide)) (fun i i0 i1 => ?_)⟩
      rw [e, wr_uf]
      by_cases ei : i = j
      · rw [ei, uf_eq]
      · rw [uf_ne ei]; exact h0 i i0 (by omega)
  exact e_224 (clear 100 0 u (Int.le_refl 0) (by omega) ⟨rfl, sb1_refl _ _, fun _ _ => rfl⟩ (fun i i0 i1 => by omega))
