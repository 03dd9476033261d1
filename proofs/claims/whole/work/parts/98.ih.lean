/-! The other side: the equations of a stretch -/
theorem q_232 {d : Nat} {u : uS} {g : Gm} {B : Int → Int} {i j b A C : Int} (hg : gK g) (hA : rA u g) (hB : ∀ x, cv (B x)) (hb : b = 0 ∨ b = 1) (eA : A = if b = 0 then i else 0) (eC : C = if b = 0 then j else j - i) (A0 : 0 ≤ A) (A1 : A ≤ 40) (C0 : 0 ≤ C) (C1 : C ≤ 40) (hal : ∀ x y, iR (gv g) x → iR (gv g) y → u.1 298 (10 * x + y) = al g x y) (hcv : ∀ k : Int, 0 ≤ k → k < 100 → cv (u.1 298 k)) (hwo : ∀ x, iR (gv g) x → u.1 299 x = B x) (hth : ∀ x, iR (gv g) x → (u.1 300 x ≠ 0 ↔ th g B x)) (h01 : ∀ x : Int, 0 ≤ x → x < 10 → u.1 300 x = 0 ∨ u.1 300 x = 1) : cV (d + 2) 232 [.ref 271, iV i, iV j, iV b] u (fun u' => u'.2 = u.2 ∧ sb1 u u' [271, 293, 294, 295, 296] ∧ (∀ k : Int, k ≠ 33 → u'.1 271 k = u.1 271 k) ∧ (∀ k : Int, (∀ x : Int, 0 ≤ x → x < 10 → k ≠ (x * 41 + A) * 41 + C) → u'.1 296 k = u.1 296 k) ∧ ∀ x, iR (gv g) x → u'.1 296 ((x * 41 + A) * 41 + C) = so g B x) := by
  obtain ⟨g1, g2, g3, g4⟩ := id hg
  obtain ⟨a1, a2, a3, a4⟩ := id hA
  generalize hQQ : (fun u' : uS => u'.2 = u.2 ∧ sb1 u u' [271, 293, 294, 295, 296] ∧ (∀ k : Int, k ≠ 33 → u'.1 271 k = u.1 271 k) ∧ (∀ k : Int, (∀ x : Int, 0 ≤ x → x < 10 → k ≠ (x * 41 + A) * 41 + C) → u'.1 296 k = u.1 296 k) ∧ ∀ x, iR (gv g) x → u'.1 296 ((x * 41 + A) * 41 + C) = so g B x) = Q
  let Fr : uS → Prop := fun v => v.2 = u.2 ∧ sb1 u v [271, 293, 294, 295, 296] ∧ (∀ i : Int, i ≠ 33 → v.1 271 i = u.1 271 i) ∧ (∀ k : Int, (∀ x : Int, 0 ≤ x → x < 10 → k ≠ (x * 41 + A) * 41 + C) → v.1 296 k = u.1 296 k)
  have frA : ∀ v, Fr v → rA v g := fun v hv => rA_of hA (hv.2.2.1 5 (by decide)) (hv.2.2.1 6 (by decide)) (hv.2.1 _ (by decide)) (hv.2.1 _ (by decide)) (hv.2.1 _ (by decide)) (hv.2.1 _ (by decide))
  have frC : ∀ (v : uS) (x c : Int), Fr v → 0 ≤ x → x < 10 → Fr (wr v 296 ((x * 41 + A) * 41 + C) c) := fun v x c hv x0 x1 => by
    refine ⟨by rw [wr_2]; exact hv.1, sb1_wr hv.2.1 (by decide), fun j hj => ?_, fun k hk => ?_⟩
    · rw [wr_ne (by omega)]
      exact hv.2.2.1 j hj
    · rw [wr_uf, uf_ne (hk x x0 x1)]
      exact hv.2.2.2 k hk
  have hsR : ∀ x y, iR (gv g) x → sR g B x y → iR (gv g) y → th g B x := fun x y hx h hy => th_up hx hy ((tcl_tc _ _).1 x y hx hy h.1) h.2
  have vals : ∀ (m : Nat) (ord : Int → Int), m ≤ gv g → (∀ i : Nat, i < m → iR (gv g) (ord i) ∧ th g B (ord i) ∧ ¬ bd (gv g) (tcl (gv g) (sR g B)) (ord i) ∧ ∀ y, iR (gv g) y → sR g B (ord i) y → ∃ j : Nat, j < i ∧ ord j = y) → (∀ x, iR (gv g) x → th g B x → (∀ i : Nat, i < m → ord i ≠ x) → so g B x = 5000000000000000000) → ∀ (k : Nat) (o : Nat) (v : uS), o + k = m → Fr v → v.1 271 33 = m → v.1 295 = ord → (∀ x y, iR (gv g) x → iR (gv g) y → (v.1 293 (10 * x + y) ≠ 0 ↔ sR g B x y)) → (∀ k : Int, 0 ≤ k → k < 100 → v.1 293 k = 0 ∨ v.1 293 k = 1) → (∀ i : Nat, i < o → v.1 296 ((ord i * 41 + A) * 41 + C) = so g B (ord i)) → (∀ x, iR (gv g) x → ¬ th g B x → v.1 296 ((x * 41 + A) * 41 + C) = 0) → (∀ x, iR (gv g) x → th g B x → (∀ i : Nat, i < m → ord i ≠ x) → v.1 296 ((x * 41 + A) * 41 + C) = 5000000000000000000) → (∀ x, iR (gv g) x → cv (v.1 296 ((x * 41 + A) * 41 + C))) → K_232 (d + 1) 148 [.ref 271, .retAddr 0, .retAddr 0, .retAddr 0, iV A, iV C, iV (o : Int), .retAddr 0, .retAddr 0, .retAddr 0, .retAddr 0] [] v Q := by
    intro m ord hm hord hleft k
    induction k with
    | zero =>
      intro o v ho hF h33 h95 h93 h93' v1 v2 v3 v4
      refine k_232_148 ⟨⟨by omega, by omega⟩, ?_⟩
      rw [h33]
      refine ⟨⟨by omega, by omega⟩, ?_⟩
      rw [if_neg (by omega), ← hQQ]
      refine ⟨hF.1, hF.2.1, hF.2.2.1, hF.2.2.2, fun x hx => ?_⟩
      by_cases hb : th g B x
      · by_cases hi : ∀ i : Nat, i < m → ord i ≠ x
        · rw [v3 x hx hb hi, hleft x hx hb hi]
        · have : ∃ i : Nat, i < m ∧ ord i = x := by
            by_cases hh : ∃ i : Nat, i < m ∧ ord i = x
            · exact hh
            · exact absurd (fun i hi' e => hh ⟨i, hi', e⟩) hi
          obtain ⟨i, hi', e⟩ := this
          rw [← e]
          exact v1 i (by omega)
      · rw [v2 x hx hb, so_0 hx hb]
    | succ k ih =>
      intro o v ho hF h33 h95 h93 h93' v1 v2 v3 v4
      obtain ⟨o1, ot, o2, o3⟩ := hord o (by omega)
      refine k_232_148 ⟨⟨by omega, by omega⟩, ?_⟩
      rw [h33]
      refine ⟨⟨by omega, by omega⟩, ?_⟩
      rw [if_pos (by omega)]
      have eord : v.1 295 (o : Int) = ord o := by rw [h95]
      rw [eord]
      generalize hx : ord o = x at o1 o2 o3 ot
      have o10 := o1.1
      have o11 := o1.2
      obtain ⟨b1, b2, b3, b4⟩ := frA v hF
      have e98 : v.1 298 = u.1 298 := hF.2.1 _ (by decide)
      have e99 : v.1 299 x = B x := by rw [hF.2.1 299 (by decide)]; exact hwo x o1
      refine ⟨by omega, by omega, by omega, by omega, ?_⟩
      rw [e99]
      generalize hf : (fun y : Nat => if pd (sR g B x y) = true then sT (al g x y) (v.1 296 (((y : Int) * 41 + A) * 41 + C)) else 0) = f
      have fcv : ∀ y : Nat, y < gv g → cv (f y) := fun y hy => by
        rw [← hf]
        show cv (if _ then _ else _)
        split
        · exact cv_T (al_cv g _ _) (v4 _ ⟨by omega, by omega⟩)
        · exact cv_0
      have sums : ∀ (n y : Nat), y + n = gv g → K_232 (d + 1) 178 [.ref 271, .retAddr 0, .retAddr 0, .retAddr 0, iV A, iV C, iV (o : Int), iV x, lV (suF (B x) f y), .retAddr 0, iV (y : Int)] [] v Q := by
        intro n
        induction n with
        | zero =>
          intro y hy
          refine k_232_178 ⟨⟨by omega, by omega⟩, ?_⟩
          rw [b1]
          refine ⟨⟨by omega, by omega⟩, ?_⟩
          rw [if_neg (by omega)]
          refine ⟨by omega, by omega, fun w e => ?_⟩
          have hval : suF (B x) f y = so g B x := by
            rw [(so_sol g B x o1).2 o2, show y = gv g by omega, ← hf]
            exact suF_congr _ (fun y hy => by
              show (if _ then _ else _) = (if _ then _ else _)
              by_cases c : sR g B x y
              · rw [if_pos (pd_t.mpr c), if_pos (pd_t.mpr c)]
                obtain ⟨j, hj, ej⟩ := o3 y ⟨by omega, by omega⟩ c
                rw [← ej, v1 j hj]
              · rw [if_neg (fun h => c (pd_t.mp h)), if_neg (fun h => c (pd_t.mp h))])
          have w96 : w.1 296 = uf (v.1 296) ((x * 41 + A) * 41 + C) (so g B x) := by rw [e, wr_uf, hval]
          have := ih (o + 1) w (by omega) (by rw [e]; exact frC v x _ hF o10 (by omega)) (by rw [e, wr_ne (by omega)]; exact h33) (by rw [e, wr_ne (by omega)]; exact h95) (by rw [e, wr_ne (by omega)]; exact h93) (by rw [e, wr_ne (by omega)]; exact h93') (fun i hi => ?_) (fun z hz hb => ?_) (fun z hz hb hi => ?_) (fun z hz => ?_)
          · rw [Int.natCast_succ] at this
            exact this
          · rw [w96]
            by_cases ei : ord i = x
            · rw [ei, uf_eq]
            · rw [uf_ne (by omega)]
              refine v1 i ?_
              have : i ≠ o := fun h => ei (by rw [h]; exact hx)
              omega
          · rw [w96]
            by_cases ez : z = x
            · rw [ez] at hb; exact absurd ot hb
            · rw [uf_ne (by omega)]; exact v2 z hz hb
          · rw [w96]
            by_cases ez : z = x
            · exact absurd (by rw [hx, ez]) (hi o (by omega))
            · rw [uf_ne (by omega)]; exact v3 z hz hb hi
          · rw [w96]
            by_cases ez : z = x
            · rw [ez, uf_eq]; exact so_cv g B hB x
            · rw [uf_ne (by omega)]; exact v4 z hz
        | succ n ihn =>
          intro y hy
          have hyR : iR (gv g) (y : Int) := ⟨by omega, by omega⟩
          refine k_232_178 ⟨⟨by omega, by omega⟩, ?_⟩
          rw [b1]
          refine ⟨⟨by omega, by omega⟩, ?_⟩
          rw [if_pos (by omega)]
          refine ⟨by omega, by omega, by rcases h93' (10 * x + y) (by omega) (by omega) with z | z <;> rw [z] <;> decide, ?_⟩
          have hac : cv (suF (B x) f y) := suF_cv (hB x) y (fun i hi => fcv i (by omega))
          have := ihn (y + 1) (by omega)
          rw [Int.natCast_succ] at this
          simp only [suF] at this
          by_cases h0 : v.1 293 (10 * x + y) = 0
          · rw [if_pos h0]
            have hn : f y = 0 := by
              rw [← hf]
              exact if_neg (fun h => (h93 x y o1 hyR).mpr (pd_t.mp h) h0)
            rw [hn, sP_0 hac] at this
            exact this
          · rw [if_neg h0, e98, hal x y o1 hyR]
            have hn : f y = sT (al g x y) (v.1 296 (((y : Int) * 41 + A) * 41 + C)) := by
              rw [← hf]
              exact if_pos (pd_t.mpr ((h93 x y o1 hyR).mp h0))
            rw [hn] at this
            exact ⟨by omega, by omega, al_cv g _ _, v4 _ hyR, hac, this⟩
      exact sums (gv g) 0 (by omega)
  have init : ∀ (m : Nat) (ord : Int → Int), m ≤ gv g → (∀ i : Nat, i < m → iR (gv g) (ord i) ∧ th g B (ord i) ∧ ¬ bd (gv g) (tcl (gv g) (sR g B)) (ord i) ∧ ∀ y, iR (gv g) y → sR g B (ord i) y → ∃ j : Nat, j < i ∧ ord j = y) → (∀ x, iR (gv g) x → th g B x → (∀ i : Nat, i < m → ord i ≠ x) → so g B x = 5000000000000000000) → ∀ (k : Nat) (x : Int) (v : uS), 0 ≤ x → x + k = 10 → Fr v → v.1 271 33 = m → v.1 295 = ord → (∀ x y, iR (gv g) x → iR (gv g) y → (v.1 293 (10 * x + y) ≠ 0 ↔ sR g B x y)) → (∀ k : Int, 0 ≤ k → k < 100 → v.1 293 k = 0 ∨ v.1 293 k = 1) → (∀ x', 0 ≤ x' → x' < x → iR (gv g) x' → (th g B x' → v.1 296 ((x' * 41 + A) * 41 + C) = 5000000000000000000) ∧ (¬ th g B x' → v.1 296 ((x' * 41 + A) * 41 + C) = 0)) → K_232 (d + 1) 101 [.ref 271, .retAddr 0, .retAddr 0, .retAddr 0, iV A, iV C, iV x, .retAddr 0, .retAddr 0, .retAddr 0, .retAddr 0] [] v Q := by
    intro m ord hm hord hleft k
    induction k with
    | zero =>
      intro x v x0 xe hF h33 h95 h93 h93' h96
      refine k_232_101 ⟨⟨by omega, by omega⟩, ?_⟩
      rw [if_neg (by omega)]
      refine vals m ord hm hord hleft m 0 v (by omega) hF h33 h95 h93 h93' (fun i hi => by omega) (fun z hz hb => (h96 z hz.1 (by have := hz.2; omega) hz).2 hb) (fun z hz hb _ => (h96 z hz.1 (by have := hz.2; omega) hz).1 hb) (fun z hz => ?_)
      by_cases hb : th g B z
      · rw [(h96 z hz.1 (by have := hz.2; omega) hz).1 hb]; exact cv_E
      · rw [(h96 z hz.1 (by have := hz.2; omega) hz).2 hb]; exact cv_0
    | succ k ih =>
      intro x v x0 xe hF h33 h95 h93 h93' h96
      refine k_232_101 ⟨⟨by omega, by omega⟩, ?_⟩
      have e300 : v.1 300 = u.1 300 := hF.2.1 _ (by decide)
      rw [if_pos (by omega), e300]
      have go : ∀ c : Int, (iR (gv g) x → (th g B x → c = 5000000000000000000) ∧ (¬ th g B x → c = 0)) → ∀ w : uS, w = wr v 296 ((x * 41 + A) * 41 + C) c → K_232 (d + 1) 101 [.ref 271, .retAddr 0, .retAddr 0, .retAddr 0, iV A, iV C, iV (x + 1), .retAddr 0, .retAddr 0, .retAddr 0, .retAddr 0] [] w Q := by
        intro c hc w e
        refine ih (x + 1) w (by omega) (by omega) (by rw [e]; exact frC v x _ hF x0 (by omega)) (by rw [e, wr_ne (by omega)]; exact h33) (by rw [e, wr_ne (by omega)]; exact h95) (by rw [e, wr_ne (by omega)]; exact h93) (by rw [e, wr_ne (by omega)]; exact h93') (fun x' z0 z1 hz => ?_)
        rw [e, wr_uf]
        by_cases ex : x' = x
        · rw [ex, uf_eq]; rw [ex] at hz; exact hc hz
        · rw [uf_ne (by omega)]; exact h96 x' z0 (by omega) hz
      refine ⟨x0, by rcases h01 x x0 (by omega) with z | z <;> rw [z] <;> decide, ?_⟩
      by_cases h0 : u.1 300 x = 0
      · rw [if_pos h0]
        exact ⟨by omega, by omega, go 0 (fun hx => ⟨fun h => absurd h0 ((hth x hx).mpr h), fun _ => rfl⟩)⟩
      · rw [if_neg h0]
        exact ⟨by omega, by omega, go 5000000000000000000 (fun hx => ⟨fun _ => rfl, fun h => absurd ((hth x hx).mp h0) h⟩)⟩
  have edges : ∀ (n : Nat) (k : Int) (v : uS), 0 ≤ k → k + n = 100 → Fr v → v.1 296 = u.1 296 → (∀ k' : Int, 0 ≤ k' → k' < k → (v.1 293 k' = 0 ∨ v.1 293 k' = 1) ∧ (v.1 293 k' ≠ 0 ↔ 0 < u.1 298 k' ∧ u.1 300 (k' % 10) ≠ 0 ∧ u.1 300 (k' / 10) ≠ 0)) → K_232 (d + 1) 3 [.ref 271, iV i, iV j, iV b, iV k, .retAddr 0, .retAddr 0, .retAddr 0, .retAddr 0, .retAddr 0, .retAddr 0] [] v Q := by
    intro n
    induction n with
    | zero =>
      intro k v k0 ke hF h96 hE
      refine k_232_3 ⟨⟨by omega, by omega⟩, ?_⟩
      rw [if_neg (by omega)]
      obtain ⟨b1, b2, b3, b4⟩ := frA v hF
      have e300 : v.1 300 = u.1 300 := hF.2.1 _ (by decide)
      refine cV.mono (q_226 (d := d) (a := 300) (nv := gv g) sx_300 (Or.inr rfl) g1 b1 (fun x hx => by rw [e300]; exact h01 x hx.1 (by have := hx.2; omega)) (fun j j0 j1 => (hE j j0 (by omega)).1)) (Nat.le_refl _) (fun w ⟨w1, w2, w3, m, w4, w5, w6⟩ => ?_)
      have hFw : Fr w := ⟨w1.trans hF.1, fun b hb => (w2 b (fun hh => hb (by simp only [List.mem_cons, List.not_mem_nil, or_false] at hh ⊢; omega))).trans (hF.2.1 b hb), fun i hi => (w3 i hi).trans (hF.2.2.1 i hi), fun k hk => by rw [w2 296 (by decide)]; exact hF.2.2.2 k hk⟩
      have eER : ∀ x y, iR (gv g) x → iR (gv g) y → (v.1 293 (10 * x + y) ≠ 0 ↔ sR g B x y) := fun x y hx hy => by
        have hx0 := hx.1
        have hx1 := hx.2
        have hy0 := hy.1
        have hy1 := hy.2
        rw [(hE (10 * x + y) (by omega) (by omega)).2, hal x y hx hy, show (10 * x + y) % 10 = y by omega, show (10 * x + y) / 10 = x by omega, hth x hx, hth y hy]
        have := cv_n (al_cv g x y)
        constructor
        · rintro ⟨q1, q2, q3⟩
          exact ⟨fun h => by omega, q2⟩
        · rintro ⟨q1, q2⟩
          have q1' : al g x y ≠ 0 := q1
          exact ⟨by omega, q2, hsR x y hx ⟨q1, q2⟩ hy⟩
      rw [e300] at w6
      have hsu : ∀ i : Nat, i < m → iR (gv g) (w.1 295 i) ∧ th g B (w.1 295 i) ∧ ∀ y, iR (gv g) y → sR g B (w.1 295 i) y → ∃ j : Nat, j < i ∧ w.1 295 j = y := fun i hi => by
        obtain ⟨q1, q2, q3⟩ := w6.1 i hi
        exact ⟨q1, (hth _ q1).mp q2, fun y hy hR => q3 y hy ((eER _ y q1 hy).mpr hR) ((hth y hy).mpr hR.2)⟩
      have hnb := ord_bd (tcl_tc (gv g) (sR g B)) (ord := fun i => w.1 295 i) (fun i hi => (hsu i hi).1) (fun i hi => (hsu i hi).2.2)
      have e93 : w.1 293 = v.1 293 := w2 _ (by decide)
      have fin := init m (w.1 295) w4 (fun i hi => ⟨(hsu i hi).1, (hsu i hi).2.1, hnb i hi, (hsu i hi).2.2⟩) (fun x hx hgx' hno => by
        refine (so_sol g B x hx).1 (left_bd (tcl_tc (gv g) (sR g B)) (U := fun x => th g B x ∧ ∀ i : Nat, i < m → w.1 295 i ≠ x) (fun x hx hU => ?_) x hx ⟨hgx', hno⟩)
        obtain ⟨y, hy, q1, q2, q3⟩ := w6.2 x hx ((hth x hx).mpr hU.1) hU.2
        exact ⟨y, hy, (eER x y hx hy).mp q1, (hth y hy).mp q2, q3⟩) 10 0 w (Int.le_refl 0) (by omega) hFw w5 rfl (by rw [e93]; exact eER) (by rw [e93]; exact fun k k0 k1 => (hE k k0 (by omega)).1) (fun x' z0 z1 => by omega)
      refine ⟨by rcases hb with z | z <;> rw [z] <;> decide, ?_⟩
      by_cases hb0 : b = 0
      · rw [if_pos hb0]
        rw [if_pos hb0] at eA eC
        rw [← eA, ← eC]
        exact fin
      · rw [if_neg hb0]
        rw [if_neg hb0] at eA eC
        rw [← eC]
        rw [eA] at fin
        exact fin
    | succ n ih =>
      intro k v k0 ke hF h96 hE
      refine k_232_3 ⟨⟨by omega, by omega⟩, ?_⟩
      have e300 : v.1 300 = u.1 300 := hF.2.1 _ (by decide)
      have e98 : v.1 298 = u.1 298 := hF.2.1 _ (by decide)
      rw [if_pos (by omega), e300, e98, Int.tmod_eq_emod_of_nonneg k0, Int.tdiv_eq_ediv_of_nonneg k0]
      refine ⟨k0, cv_L (hcv k k0 (by omega)), ?_⟩
      have go : ∀ c : Int, (c = 0 ∨ c = 1) → (c ≠ 0 ↔ 0 < u.1 298 k ∧ u.1 300 (k % 10) ≠ 0 ∧ u.1 300 (k / 10) ≠ 0) → ∀ w : uS, w = wr v 293 k c → K_232 (d + 1) 3 [.ref 271, iV i, iV j, iV b, iV (k + 1), .retAddr 0, .retAddr 0, .retAddr 0, .retAddr 0, .retAddr 0, .retAddr 0] [] w Q := by
        intro c hc1 hc w e
        refine ih (k + 1) w (by omega) (by omega) ⟨by rw [e, wr_2]; exact hF.1, by rw [e]; exact sb1_wr hF.2.1 (by decide), fun j hj => by rw [e, wr_ne (by omega)]; exact hF.2.2.1 j hj, fun j hj => by rw [e, wr_ne (by omega)]; exact hF.2.2.2 j hj⟩ (by rw [e, wr_ne (by omega)]; exact h96) (fun k' z0 z1 => ?_)
        rw [e, wr_uf]
        by_cases ek : k' = k
        · rw [ek, uf_eq]; exact ⟨hc1, hc⟩
        · rw [uf_ne ek]; exact hE k' z0 (by omega)
      have r1 := h01 (k % 10) (by omega) (by omega)
      have r2 := h01 (k / 10) (by omega) (by omega)
      by_cases h1 : 0 < u.1 298 k
      · rw [if_pos h1]
        refine ⟨by omega, by omega, by rcases r1 with z | z <;> rw [z] <;> decide, ?_⟩
        by_cases h2 : u.1 300 (k % 10) = 0
        · rw [if_pos h2]
          exact go 0 (Or.inl rfl) ⟨fun h => absurd rfl h, fun h => absurd h2 h.2.1⟩
        · rw [if_neg h2]
          refine ⟨by omega, by omega, by rcases r2 with z | z <;> rw [z] <;> decide, ?_⟩
          by_cases h3 : u.1 300 (k / 10) = 0
          · rw [if_pos h3]
            exact go 0 (Or.inl rfl) ⟨fun h => absurd rfl h, fun h => absurd h3 h.2.2⟩
          · rw [if_neg h3]
            exact go 1 (Or.inr rfl) ⟨fun _ => ⟨h1, h2, h3⟩, fun _ => by decide⟩
      · rw [if_neg h1]
        exact go 0 (Or.inl rfl) ⟨fun h => absurd rfl h, fun h => absurd h.1 h1⟩
  exact e_232 (edges 100 0 u (Int.le_refl 0) (by omega) ⟨rfl, sb1_refl _ _, fun _ _ => rfl, fun _ _ => rfl⟩ rfl (fun k' z0 z1 => by omega))
