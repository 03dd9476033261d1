/-! The first side: the equations of a span -/
def un (c : Int) : Int := if c = 9000000000000000000 then 5000000000000000000 else c
theorem un_cl {a : Int} (h : cv a) : un (cl a) = a := by
  unfold un
  by_cases e : cl a = 9000000000000000000
  · rw [if_pos e]; exact ((cl_9 h).mp e).symm
  · rw [if_neg e]
    exact cl_n (fun h' => e ((cl_9 h).mpr h'))
def vK (n : Nat) (u : uS) : Prop := ∀ x, iR n x → ∃ a, cv a ∧ u.1 55 x = cl a
def Gd (g : Gm) (B : Int → Int) (k : Nat) (u : uS) : Prop := ∀ x, iR (gv g) x → (bd (gv g) (tcl (gv g) (sR g B)) x ∨ ¬ th g B x ∨ rk (gv g) (tcl (gv g) (sR g B)) x < k) → u.1 55 x = cl (so g B x)
theorem suF_same {a : Int} (ha : cv a) {f h : Nat → Int} : ∀ k : Nat, (∀ i, i < k → f i = h i) → suF a f k = suF a h k := fun k hh => suF_congr k hh
theorem q_121 {d : Nat} {u : uS} {g : Gm} {B : Int → Int} {C : Int} (hg : gK g) (hA : cA u g) (hB : ∀ x, cv (B x)) (h54 : ∀ x, iR (gv g) x → u.1 54 x = cl (B x)) (h49 : ∀ x y, iR (gv g) x → iR (gv g) y → u.1 49 (x * 10 + y) = cl (al g x y)) (h50 : ∀ x y, iR (gv g) x → iR (gv g) y → (bi (u.1 50 x) y.toNat = true ↔ tcl (gv g) (uR g) x y)) (h50r : ∀ x : Int, 0 ≤ x → x < 10 → rI (u.1 50 x)) (hC : ∀ x, iR (gv g) x → (iand (ior (u.1 50 x) (ishl 1 x)) C = 0 ↔ ¬ bd (gv g) (tcl (gv g) (sR g B)) x)) (hV : vK (gv g) u) (hinit : ∀ x, iR (gv g) x → (∀ y, iR (gv g) y → ¬ uR g x y) → ¬ bd (gv g) (tcl (gv g) (sR g B)) x → u.1 55 x = cl (B x)) : cI (d + 2) 121 [.ref 36, iV C] u (fun c u' => (c = 0 ∨ c = 1) ∧ u'.2 = u.2 ∧ sb1 u u' [55] ∧ vK (gv g) u' ∧ (∀ x, iR (gv g) x → (∀ y, iR (gv g) y → ¬ uR g x y) → ¬ bd (gv g) (tcl (gv g) (sR g B)) x → u'.1 55 x = cl (B x)) ∧ (∀ k, Gd g B k u → Gd g B (k + 1) u') ∧ (c = 0 → ∀ x, iR (gv g) x → u'.1 55 x = u.1 55 x)) := by
  obtain ⟨g1, g2, g3, g4⟩ := id hg
  obtain ⟨c0, c1, c2, c3, c4⟩ := id hA
  generalize hG : tcl (gv g) (sR g B) = G at *
  have htc : tcR (gv g) (sR g B) G := by rw [← hG]; exact tcl_tc _ _
  generalize hQQ : (fun (c : Int) (u' : uS) => (c = 0 ∨ c = 1) ∧ u'.2 = u.2 ∧ sb1 u u' [55] ∧ vK (gv g) u' ∧ (∀ x, iR (gv g) x → (∀ y, iR (gv g) y → ¬ uR g x y) → ¬ bd (gv g) G x → u'.1 55 x = cl (B x)) ∧ (∀ k, Gd g B k u → Gd g B (k + 1) u') ∧ (c = 0 → ∀ x, iR (gv g) x → u'.1 55 x = u.1 55 x)) = Q
  have hSol : Sol (gv g) G (sΦ g B) (so g B) := by rw [← hG]; exact so_sol g B
  have hbdz : ∀ x, iR (gv g) x → ¬ th g B x → ¬ bd (gv g) G x := fun x hx ht hb => by
    rw [← hG] at hb
    obtain ⟨c, hc, q1, q2, q3⟩ := (sbd hx).mp hb
    rcases q1 with q | q
    · rw [q] at q3; exact ht q3
    · exact ht (th_up hx hc q q3)
  -- what is right stays right
  let Rg : uS → Nat → Int → Prop := fun v k x0 => ∀ x, iR (gv g) x → (bd (gv g) G x ∨ ¬ th g B x ∨ rk (gv g) G x < k ∨ (x < x0 ∧ rk (gv g) G x < k + 1)) → v.1 55 x = cl (so g B x)
  have hGdR : ∀ v k, (∀ x, iR (gv g) x → (bd (gv g) G x ∨ ¬ th g B x ∨ rk (gv g) G x < k) → v.1 55 x = cl (so g B x)) = Gd g B k v := fun v k => by
    unfold Gd
    rw [hG]
  let Ze : uS → Prop := fun v => ∀ x, iR (gv g) x → (∀ y, iR (gv g) y → ¬ uR g x y) → ¬ bd (gv g) G x → v.1 55 x = cl (B x)
  have xs : ∀ (m : Nat) (x l : Int) (v : uS), 0 ≤ x → x + m = gv g → v.2 = u.2 → sb1 u v [55] → vK (gv g) v → Ze v → (∀ k, Gd g B k u → Rg v k x) → ((l = 0 ∧ ∀ x', iR (gv g) x' → v.1 55 x' = u.1 55 x') ∨ l = 1) → K_121 (d + 1) 4 [.ref 36, iV C, iV l, iV x, .retAddr 0, .retAddr 0, .retAddr 0] [] v Q := by
    intro m
    induction m with
    | zero =>
      intro x l v x0 xe v2 vs vV vZ vR vl
      refine k_121_4 ?_
      rw [v2, c0, vs 6 (by decide), c1]
      refine ⟨sx_6, ⟨by omega, by omega⟩, ⟨by omega, by omega⟩, ?_⟩
      rw [if_neg (by omega), ← hQQ]
      refine ⟨by rcases vl with q | q <;> omega, by rcases vl with q | q <;> omega, v2, vs, vV, vZ, fun k hk => ?_, fun hl0 => ?_⟩
      · rw [← hGdR]
        intro x' hx' hh
        refine vR k hk x' hx' ?_
        rcases hh with q | q | q
        · exact Or.inl q
        · exact Or.inr (Or.inl q)
        · exact Or.inr (Or.inr (Or.inr ⟨by have := hx'.2; omega, q⟩))
      · rcases vl with q | q
        · exact q.2
        · omega
    | succ m ih =>
      intro x l v x0 xe v2 vs vV vZ vR vl
      have hxR : iR (gv g) x := ⟨x0, by omega⟩
      have hl01 : l = 0 ∨ l = 1 := by
        rcases vl with q | q
        · exact Or.inl q.1
        · exact Or.inr q
      refine k_121_4 ?_
      rw [v2, c0, vs 6 (by decide), c1, vs 50 (by decide)]
      refine ⟨sx_6, ⟨by omega, by omega⟩, ⟨by omega, by omega⟩, ?_⟩
      rw [if_pos (by omega)]
      refine ⟨x0, by omega, h50r x x0 (by omega), ?_⟩
      -- left as it is
      have skip : (bd (gv g) G x ∨ v.1 55 x = cl (so g B x)) → K_121 (d + 1) 4 [.ref 36, iV C, iV l, iV (x + 1), .retAddr 0, .retAddr 0, .retAddr 0] [] v Q := by
        intro hs
        refine ih (x + 1) l v (by omega) (by omega) v2 vs vV vZ (fun k hk x' hx' hh => ?_) vl
        by_cases ex : x' = x
        · rcases hs with q | q
          · exact vR k hk x' hx' (Or.inl (by rw [ex]; exact q))
          · rw [ex]; exact q
        · refine vR k hk x' hx' ?_
          rcases hh with q | q | q | q
          · exact Or.inl q
          · exact Or.inr (Or.inl q)
          · exact Or.inr (Or.inr (Or.inl q))
          · exact Or.inr (Or.inr (Or.inr ⟨by omega, q.2⟩))
      by_cases h0 : u.1 50 x = 0
      · rw [if_pos h0]
        have hnu : ∀ y, iR (gv g) y → ¬ uR g x y := fun y hy hu => by
          have := (h50 x y hxR hy).mpr ((tcl_tc _ _).1 x y hxR hy hu)
          rw [h0, bi_0] at this
          cases this
        by_cases hb : bd (gv g) G x
        · exact skip (Or.inl hb)
        · refine skip (Or.inr ?_)
          rw [vZ x hxR hnu hb, (hSol x hxR).2 hb]
          unfold sΦ
          have : ∀ (n : Nat), n ≤ gv g → suF (B x) (fun y => if pd (sR g B x y) = true then sT (al g x y) (so g B y) else 0) n = B x := by
            intro n
            induction n with
            | zero => intro _; rfl
            | succ n ihn =>
              intro hn
              simp only [suF]
              rw [ihn (by omega), if_neg (fun h => hnu n ⟨by omega, by omega⟩ (pd_t.mp h).1), sP_0 (hB x)]
          rw [this (gv g) (Nat.le_refl _)]
      · rw [if_neg h0]
        by_cases hb : bd (gv g) G x
        · rw [if_neg (fun h => (hC x hxR).mp h hb)]
          exact skip (Or.inl hb)
        · rw [if_pos ((hC x hxR).mpr hb)]
          have hfv : ∀ y, iR (gv g) y → cv (un (v.1 55 y)) ∧ v.1 55 y = cl (un (v.1 55 y)) := fun y hy => by
            obtain ⟨a, ha, e⟩ := vV y hy
            rw [e, un_cl ha]
            exact ⟨ha, rfl⟩
          generalize hf : (fun y : Nat => sT (al g x y) (un (v.1 55 (y : Int)))) = f
          have fcv : ∀ y : Nat, y < gv g → cv (f y) := fun y hy => by
            rw [← hf]
            exact cv_T (al_cv g _ _) (hfv _ ⟨by omega, by omega⟩).1
          have acv : ∀ n : Nat, n ≤ gv g → cv (suF (B x) f n) := fun n hn => suF_cv (hB x) n (fun i hi => fcv i (by omega))
          have sums : ∀ (n y : Nat), y + n = gv g → K_121 (d + 1) 50 [.ref 36, iV C, iV l, iV x, lV (cl (suF (B x) f y)), .retAddr 0, iV (y : Int)] [] v Q := by
            intro n
            induction n with
            | zero =>
              intro y hy
              refine k_121_50 ?_
              rw [v2, c0, vs 6 (by decide), c1]
              refine ⟨sx_6, ⟨by omega, by omega⟩, ⟨by omega, by omega⟩, ?_⟩
              rw [if_neg (by omega), show y = gv g by omega]
              have hAc := acv (gv g) (Nat.le_refl _)
              obtain ⟨a, ha, ea⟩ := vV x hxR
              refine ⟨x0, by omega, rLc hAc, by rw [ea]; exact rLc ha, ?_⟩
              -- the new value
              have new : ∀ l' : Int, (l' = 0 → l = 0 ∧ cl (suF (B x) f (gv g)) = v.1 55 x) → (l' = 0 ∨ l' = 1) → ∀ w : uS, w = wr v 55 x (cl (suF (B x) f (gv g))) → K_121 (d + 1) 4 [.ref 36, iV C, iV l', iV (x + 1), .retAddr 0, .retAddr 0, .retAddr 0] [] w Q := by
                intro l' hl' hl01' w ew
                have w55 : w.1 55 = uf (v.1 55) x (cl (suF (B x) f (gv g))) := by rw [ew, wr_uf]
                refine ih (x + 1) l' w (by omega) (by omega) (by rw [ew, wr_2]; exact v2) (by rw [ew]; exact sb1_wr vs (by decide)) (fun y' hy' => ?_) (fun y' hy' hnu hnb => ?_) (fun k hk x' hx' hh => ?_) ?_
                · rw [w55]
                  by_cases e : y' = x
                  · rw [e, uf_eq]; exact ⟨_, hAc, rfl⟩
                  · rw [uf_ne e]; exact vV y' hy'
                · rw [w55]
                  by_cases e : y' = x
                  · rw [e, uf_eq]
                    rw [e] at hnu
                    congr 1
                    have : ∀ (n : Nat), n ≤ gv g → suF (B x) f n = B x := by
                      intro n
                      induction n with
                      | zero => intro _; rfl
                      | succ n ihn =>
                        intro hn
                        simp only [suF]
                        have h0' : al g x n = 0 := by
                          have := hnu n ⟨by omega, by omega⟩
                          unfold uR at this
                          exact Classical.byContradiction this
                        have hfn : f n = 0 := by
                          rw [← hf]
                          show sT (al g x n) _ = 0
                          rw [h0', sT_0l]
                        rw [ihn (by omega), hfn, sP_0 (hB x)]
                    exact this (gv g) (Nat.le_refl _)
                  · rw [uf_ne e]; exact vZ y' hy' hnu hnb
                · rw [w55]
                  by_cases e : x' = x
                  · rw [e, uf_eq]
                    rw [e] at hh
                    congr 1
                    have hk1 : ¬ th g B x ∨ rk (gv g) G x < k + 1 := by
                      rcases hh with q | q | q | q
                      · exact absurd q hb
                      · exact Or.inl q
                      · exact Or.inr (by omega)
                      · exact Or.inr q.2
                    rw [(hSol x hxR).2 hb]
                    unfold sΦ
                    refine suF_congr _ (fun y' hy' => ?_)
                    have hy'R : iR (gv g) (y' : Int) := ⟨by omega, by omega⟩
                    rw [← hf]
                    show sT (al g x y') (un (v.1 55 (y' : Int))) = _
                    by_cases hs : sR g B x y'
                    · rw [if_pos (pd_t.mpr hs)]
                      have hthx : th g B x := th_up hxR hy'R ((tcl_tc _ _).1 _ _ hxR hy'R hs.1) hs.2
                      have hlt := (rk_lt htc hxR hy'R hs hb).2
                      have hr : rk (gv g) G y' < k := by
                        rcases hk1 with q | q
                        · exact absurd hthx q
                        · omega
                      rw [vR k hk y' hy'R (Or.inr (Or.inr (Or.inl hr))), un_cl (so_cv g B hB _)]
                    · rw [if_neg (fun h => hs (pd_t.mp h))]
                      by_cases hu : uR g x y'
                      · have hnt : ¬ th g B y' := fun h => hs ⟨hu, h⟩
                        rw [vR k hk y' hy'R (Or.inr (Or.inl hnt)), un_cl (so_cv g B hB _), so_0 hy'R hnt, sT_0]
                      · have h0' : al g x y' = 0 := by
                          unfold uR at hu
                          exact Classical.byContradiction hu
                        rw [h0', sT_0l]
                  · rw [uf_ne e]
                    refine vR k hk x' hx' ?_
                    rcases hh with q | q | q | q
                    · exact Or.inl q
                    · exact Or.inr (Or.inl q)
                    · exact Or.inr (Or.inr (Or.inl q))
                    · exact Or.inr (Or.inr (Or.inr ⟨by omega, q.2⟩))
                · rcases hl01' with e0 | e1
                  · obtain ⟨q1, q2⟩ := hl' e0
                    refine Or.inl ⟨e0, fun x' hx' => ?_⟩
                    rcases vl with q | q
                    · rw [w55]
                      by_cases e : x' = x
                      · rw [e, uf_eq, q2]; exact q.2 x hxR
                      · rw [uf_ne e]; exact q.2 x' hx'
                    · omega
                  · exact Or.inr e1
              by_cases heq : cl (suF (B x) f (gv g)) = v.1 55 x
              · rw [if_pos heq]
                refine new _ (fun h => ⟨?_, heq⟩) ?_
                · rcases hl01 with q | q
                  · exact q
                  · rw [q] at h; exact absurd h (by decide)
                · rcases hl01 with q | q
                  · rw [q]; exact Or.inl (by decide)
                  · rw [q]; exact Or.inr (by decide)
              · rw [if_neg heq]
                refine new _ (fun h => ?_) ?_
                · rcases hl01 with q | q
                  · rw [q] at h; exact absurd h (by decide)
                  · rw [q] at h; exact absurd h (by decide)
                · rcases hl01 with q | q
                  · rw [q]; exact Or.inr (by decide)
                  · rw [q]; exact Or.inr (by decide)
            | succ n ihn =>
              intro y hy
              have hyR : iR (gv g) (y : Int) := ⟨by omega, by omega⟩
              obtain ⟨q1, q2⟩ := hfv y hyR
              refine k_121_50 ?_
              rw [v2, c0, vs 6 (by decide), c1, vs 49 (by decide), h49 x y hxR hyR]
              refine ⟨sx_6, ⟨by omega, by omega⟩, ⟨by omega, by omega⟩, ?_⟩
              rw [if_pos (by omega), q2]
              have hAc := acv y (by omega)
              refine ⟨by omega, by omega, by omega, by omega, cl_cn (al_cv g _ _), cl_cn q1, cl_cn hAc, ?_⟩
              rw [cl_T (al_cv g _ _) q1, cl_P hAc (cv_T (al_cv g _ _) q1)]
              have := ihn (y + 1) (by omega)
              simp only [suF] at this
              rw [Int.natCast_succ] at this
              have hfy : f y = sT (al g x y) (un (v.1 55 (y : Int))) := by rw [← hf]
              rw [hfy] at this
              exact this
          have e54 : v.1 54 x = cl (B x) := by rw [vs 54 (by decide)]; exact h54 x hxR
          rw [e54]
          exact sums (gv g) 0 (by omega)
  refine e_121 (xs (gv g) 0 0 u (Int.le_refl 0) (by omega) rfl (sb1_refl _ _) hV hinit (fun k hk x hx hh => ?_) (Or.inl ⟨rfl, fun _ _ => rfl⟩))
  rw [← hGdR] at hk
  refine hk x hx ?_
  rcases hh with q | q | q | q
  · exact Or.inl q
  · exact Or.inr (Or.inl q)
  · exact Or.inr (Or.inr q)
  · have := hx.1
    omega
theorem q_120 {d : Nat} {u : uS} {g : Gm} {B : Int → Int} (hg : gK g) (hA : cA u g) (hB : ∀ x, cv (B x)) (h54 : ∀ x, iR (gv g) x → u.1 54 x = cl (B x)) (h49 : ∀ x y, iR (gv g) x → iR (gv g) y → u.1 49 (x * 10 + y) = cl (al g x y)) (h50 : ∀ x y, iR (gv g) x → iR (gv g) y → (bi (u.1 50 x) y.toNat = true ↔ tcl (gv g) (uR g) x y)) (h50r : ∀ x : Int, 0 ≤ x → x < 10 → rI (u.1 50 x)) (h8 : ∀ i : Nat, bi (u.1 36 8) i = true ↔ i < gv g ∧ bi (u.1 50 (i : Int)) i = true) : cV (d + 4) 120 [.ref 36] u (fun u' => u'.2 = u.2 ∧ sb1 u u' [55] ∧ ∀ x, iR (gv g) x → u'.1 55 x = cl (so g B x)) := by
  obtain ⟨g1, g2, g3, g4⟩ := id hg
  obtain ⟨c0, c1, c2, c3, c4⟩ := id hA
  generalize hQQ : (fun u' : uS => u'.2 = u.2 ∧ sb1 u u' [55] ∧ ∀ x, iR (gv g) x → u'.1 55 x = cl (so g B x)) = Q
  have all : ∀ v : uS, Gd g B (gv g) v → ∀ x, iR (gv g) x → v.1 55 x = cl (so g B x) := fun v h x hx => by
    by_cases hb : bd (gv g) (tcl (gv g) (sR g B)) x
    · exact h x hx (Or.inl hb)
    · exact h x hx (Or.inr (Or.inr (rk_n (tcl_tc _ _) hx hb)))
  -- the rounds
  have rounds : ∀ (C : Int), (∀ x, iR (gv g) x → (iand (ior (u.1 50 x) (ishl 1 x)) C = 0 ↔ ¬ bd (gv g) (tcl (gv g) (sR g B)) x)) → ∀ (m k : Nat) (l : Int) (v : uS), k + m = gv g → v.2 = u.2 → sb1 u v [55] → vK (gv g) v → (∀ x, iR (gv g) x → (∀ y, iR (gv g) y → ¬ uR g x y) → ¬ bd (gv g) (tcl (gv g) (sR g B)) x → v.1 55 x = cl (B x)) → Gd g B k v → (l = 0 → ∀ k, Gd g B k v) → (l = 0 ∨ l = 1) → K_120 (d + 3) 161 [.ref 36, .retAddr 0, iV C, iV l, iV (k : Int)] [] v Q := by
    intro C hC m
    induction m with
    | zero =>
      intro k l v hk v2 vs vV vZ vG vA hl
      refine k_120_161 ⟨by rcases hl with q | q <;> rw [q] <;> decide, ?_⟩
      have fin : Q v := by
        rw [← hQQ]
        exact ⟨v2, vs, all v (by rw [show gv g = k by omega]; exact vG)⟩
      by_cases h0 : l = 0
      · rw [if_pos h0]; exact fin
      · rw [if_neg h0, v2, c0, vs 6 (by decide), c1]
        refine ⟨sx_6, ⟨by omega, by omega⟩, ⟨by omega, by omega⟩, ?_⟩
        rw [if_neg (by omega)]
        exact fin
    | succ m ih =>
      intro k l v hk v2 vs vV vZ vG vA hl
      refine k_120_161 ⟨by rcases hl with q | q <;> rw [q] <;> decide, ?_⟩
      by_cases h0 : l = 0
      · rw [if_pos h0, ← hQQ]
        exact ⟨v2, vs, all v (vA h0 _)⟩
      · rw [if_neg h0, v2, c0, vs 6 (by decide), c1]
        refine ⟨sx_6, ⟨by omega, by omega⟩, ⟨by omega, by omega⟩, ?_⟩
        rw [if_pos (by omega)]
        have hAv : cA v g := cA_of hA v2 (vs _ (by decide)) (vs _ (by decide)) (vs _ (by decide)) (vs _ (by decide)) (vs _ (by decide))
        refine cI.mono (q_121 (d := d + 1) hg hAv hB (by rw [vs 54 (by decide)]; exact h54) (by rw [vs 49 (by decide)]; exact h49) (by rw [vs 50 (by decide)]; exact h50) (by rw [vs 50 (by decide)]; exact h50r) (by rw [vs 50 (by decide)]; exact hC) vV vZ) (Nat.le_refl _) (fun c w ⟨w1, w2, w3, w4, w5, w6, w7⟩ => ?_)
        have hall : c = 0 → ∀ k, Gd g B k w := fun hc => by
          intro k
          have same : ∀ k, Gd g B k w → Gd g B k v := fun k h x hx hh => by
            rw [← w7 hc x hx]
            exact h x hx hh
          induction k with
          | zero => exact fun x hx hh => w6 k vG x hx (by
              rcases hh with q | q | q
              · exact Or.inl q
              · exact Or.inr (Or.inl q)
              · exact Or.inr (Or.inr (by omega)))
          | succ k ihk => exact w6 k (same k ihk)
        have := ih (k + 1) c w (by omega) (w2.trans v2) (fun b hb => (w3 b hb).trans (vs b hb)) w4 w5 (w6 k vG) hall w1
        rw [Int.natCast_succ] at this
        exact this
  have hn8 : ∀ i : Nat, bi (u.1 36 8) i = true → i < gv g := fun i hi => ((h8 i).mp hi).1
  have init : ∀ (l1 C : Int), rI l1 → (l1 = 0 → ∀ x, iR (gv g) x → B x = 0) → (∀ x, iR (gv g) x → (iand (ior (u.1 50 x) (ishl 1 x)) C = 0 ↔ ¬ bd (gv g) (tcl (gv g) (sR g B)) x)) → ∀ (m : Nat) (x : Int) (v : uS), 0 ≤ x → x + m = gv g → v.2 = u.2 → sb1 u v [55] → (∀ x', iR (gv g) x' → x' < x → (bd (gv g) (tcl (gv g) (sR g B)) x' → v.1 55 x' = 9000000000000000000) ∧ (¬ bd (gv g) (tcl (gv g) (sR g B)) x' → v.1 55 x' = cl (B x'))) → K_120 (d + 3) 98 [.ref 36, iV l1, iV C, iV x, .retAddr 0] [] v Q := by
    intro l1 C hl1 hl0 hC m
    induction m with
    | zero =>
      intro x v x0 xe v2 vs h
      have h' : ∀ x', iR (gv g) x' → (bd (gv g) (tcl (gv g) (sR g B)) x' → v.1 55 x' = 9000000000000000000) ∧ (¬ bd (gv g) (tcl (gv g) (sR g B)) x' → v.1 55 x' = cl (B x')) := fun x' hx' => h x' hx' (by have := hx'.2; omega)
      have hV : vK (gv g) v := fun x' hx' => by
        by_cases hb : bd (gv g) (tcl (gv g) (sR g B)) x'
        · exact ⟨_, cv_E, by rw [(h' x' hx').1 hb, cl_E]⟩
        · exact ⟨_, hB x', (h' x' hx').2 hb⟩
      have hG0 : Gd g B 0 v := fun x' hx' hh => by
        rcases hh with q | q | q
        · rw [(h' x' hx').1 q, (so_sol g B x' hx').1 q, cl_E]
        · have hB0 : B x' = 0 := by
            by_cases e : B x' = 0
            · exact e
            · exact absurd ⟨x', hx', Or.inl rfl, e⟩ q
          have hnb : ¬ bd (gv g) (tcl (gv g) (sR g B)) x' := fun hb => by
            obtain ⟨c, hc, q1, q2, q3⟩ := (sbd hx').mp hb
            rcases q1 with q1 | q1
            · rw [q1] at q3; exact q q3
            · exact q (th_up hx' hc q1 q3)
          rw [(h' x' hx').2 hnb, hB0, so_0 hx' q]
        · omega
      refine k_120_98 ?_
      rw [v2, c0, vs 6 (by decide), c1]
      refine ⟨sx_6, ⟨by omega, by omega⟩, ⟨by omega, by omega⟩, ?_⟩
      rw [if_neg (by omega)]
      refine ⟨hl1, ?_⟩
      have hZ : ∀ x, iR (gv g) x → (∀ y, iR (gv g) y → ¬ uR g x y) → ¬ bd (gv g) (tcl (gv g) (sR g B)) x → v.1 55 x = cl (B x) := fun x hx _ hb => (h' x hx).2 hb
      by_cases e0 : l1 = 0
      · rw [if_pos e0]
        refine rounds C hC (gv g) 0 0 v (by omega) v2 vs hV hZ hG0 (fun _ k x' hx' hh => ?_) (Or.inl rfl)
        refine hG0 x' hx' (Or.inr (Or.inl ?_))
        rintro ⟨b, hb, -, q⟩
        exact q (hl0 e0 b hb)
      · rw [if_neg e0]
        exact rounds C hC (gv g) 0 1 v (by omega) v2 vs hV hZ hG0 (fun q => absurd q (by decide)) (Or.inr rfl)
    | succ m ih =>
      intro x v x0 xe v2 vs h
      have hxR : iR (gv g) x := ⟨x0, by omega⟩
      refine k_120_98 ?_
      rw [v2, c0, vs 6 (by decide), c1, vs 50 (by decide)]
      refine ⟨sx_6, ⟨by omega, by omega⟩, ⟨by omega, by omega⟩, ?_⟩
      rw [if_pos (by omega), vs 54 (by decide), h54 x hxR]
      refine ⟨x0, by omega, ?_⟩
      have go : ∀ c : Int, ((bd (gv g) (tcl (gv g) (sR g B)) x → c = 9000000000000000000) ∧ (¬ bd (gv g) (tcl (gv g) (sR g B)) x → c = cl (B x))) → ∀ w : uS, w = wr v 55 x c → K_120 (d + 3) 98 [.ref 36, iV l1, iV C, iV (x + 1), .retAddr 0] [] w Q := by
        intro c hc w ew
        refine ih (x + 1) w (by omega) (by omega) (by rw [ew, wr_2]; exact v2) (by rw [ew]; exact sb1_wr vs (by decide)) (fun x' hx' hlt => ?_)
        rw [ew, wr_uf]
        by_cases ex : x' = x
        · rw [ex, uf_eq]; exact hc
        · rw [uf_ne ex]; exact h x' hx' (by omega)
      by_cases hb : bd (gv g) (tcl (gv g) (sR g B)) x
      · rw [if_neg (fun q => (hC x hxR).mp q hb)]
        exact go _ ⟨fun _ => rfl, fun q => absurd hb q⟩
      · rw [if_pos ((hC x hxR).mpr hb)]
        exact go _ ⟨fun q => absurd q hb, fun _ => rfl⟩
  have circles : ∀ (l1 : Int), rI l1 → (∀ i : Nat, bi l1 i = true ↔ i < gv g ∧ B i ≠ 0) → ∀ (m : Nat) (x l : Int), 0 ≤ x → x + m = gv g → (∀ i : Nat, bi l i = true ↔ (i : Int) < x ∧ tcl (gv g) (uR g) i i ∧ th g B i) → K_120 (d + 3) 46 [.ref 36, iV l1, iV l, iV x, .retAddr 0] [] u Q := by
    intro l1 hl1 hb1 m
    induction m with
    | zero =>
      intro x l x0 xe hl
      refine k_120_46 ?_
      rw [c0, c1]
      refine ⟨sx_6, ⟨by omega, by omega⟩, ⟨by omega, by omega⟩, ?_⟩
      rw [if_neg (by omega)]
      refine init l1 l hl1 (fun h0 x hx => ?_) (fun x hx => ?_) (gv g) 0 u (Int.le_refl 0) (by omega) rfl (sb1_refl _ _) (fun x' hx' hlt => by have := hx'.1; omega)
      · by_cases e : B x = 0
        · exact e
        · have hx0 := hx.1
          have hx1 := hx.2
          have := (hb1 x.toNat).mpr ⟨by omega, by rw [show ((x.toNat : Nat) : Int) = x by omega]; exact e⟩
          rw [h0, bi_0] at this
          cases this
      · rw [lead0 g1 hx (fun i hi => by have := ((hl i).mp hi).1; omega), sbd hx]
        constructor
        · rintro h ⟨c, hc, q1, q2, q3⟩
          have hc0 := hc.1
          have hc1 := hc.2
          refine h c hc ?_ ((hl c.toNat).mpr ⟨by omega, ?_⟩)
          · rcases q1 with q | q
            · exact Or.inl q
            · exact Or.inr ((h50 x c hx hc).mpr q)
          · rw [show ((c.toNat : Nat) : Int) = c by omega]
            exact ⟨q2, q3⟩
        · intro h c hc q1 q2
          have hc0 := hc.1
          have q3 := ((hl c.toNat).mp q2).2
          rw [show ((c.toNat : Nat) : Int) = c by omega] at q3
          refine h ⟨c, hc, ?_, q3⟩
          rcases q1 with q | q
          · exact Or.inl q
          · exact Or.inr ((h50 x c hx hc).mp q)
    | succ m ih =>
      intro x l x0 xe hl
      have hxR : iR (gv g) x := ⟨x0, by omega⟩
      have ex : ((x.toNat : Nat) : Int) = x := by omega
      refine k_120_46 ?_
      rw [c0, c1]
      refine ⟨sx_6, ⟨by omega, by omega⟩, ⟨by omega, by omega⟩, ?_⟩
      rw [if_pos (by omega), bit_i x0 (by omega)]
      have no : ¬ (tcl (gv g) (uR g) x x ∧ th g B x) → K_120 (d + 3) 46 [.ref 36, iV l1, iV l, iV (x + 1), .retAddr 0] [] u Q := by
        intro hn
        refine ih (x + 1) l (by omega) (by omega) (fun i => ?_)
        rw [hl i]
        constructor
        · rintro ⟨q1, q2⟩; exact ⟨by omega, q2⟩
        · rintro ⟨q1, q2⟩
          by_cases e : (i : Int) = x
          · rw [e] at q2; exact absurd q2 hn
          · exact ⟨by omega, q2⟩
      have hcirc : bi (u.1 36 8) x.toNat = true ↔ tcl (gv g) (uR g) x x := by
        rw [h8, ex, h50 x x hxR hxR]
        exact ⟨fun q => q.2, fun q => ⟨by omega, q⟩⟩
      by_cases hc : bi (u.1 36 8) x.toNat = true
      · rw [if_pos hc, if_pos rfl]
        refine ⟨x0, by omega, ?_⟩
        have hth : iand (ior (u.1 50 x) (ishl 1 x)) l1 = 0 ↔ ¬ th g B x := by
          rw [lead0 g1 hxR (fun i hi => ((hb1 i).mp hi).1)]
          constructor
          · rintro h ⟨b, hb, q1, q2⟩
            have hb0 := hb.1
            have hb1' := hb.2
            refine h b hb ?_ ((hb1 b.toNat).mpr ⟨by omega, by rw [show ((b.toNat : Nat) : Int) = b by omega]; exact q2⟩)
            rcases q1 with q | q
            · exact Or.inl q
            · exact Or.inr ((h50 x b hxR hb).mpr q)
          · intro h b hb q1 q2
            have hb0 := hb.1
            have q3 := ((hb1 b.toNat).mp q2).2
            rw [show ((b.toNat : Nat) : Int) = b by omega] at q3
            refine h ⟨b, hb, ?_, q3⟩
            rcases q1 with q | q
            · exact Or.inl q
            · exact Or.inr ((h50 x b hxR hb).mp q)
        by_cases ht : th g B x
        · rw [if_neg (fun q => hth.mp q ht)]
          refine ih (x + 1) _ (by omega) (by omega) (fun i => ?_)
          rw [bi_ior, bi_bit x0 (by omega), Bool.or_eq_true, decide_eq_true_eq, hl i]
          constructor
          · rintro (q | q)
            · exact ⟨by omega, q.2⟩
            · have e : (i : Int) = x := by omega
              rw [e]
              exact ⟨by omega, hcirc.mp hc, ht⟩
          · rintro ⟨q1, q2⟩
            by_cases e : (i : Int) = x
            · exact Or.inr (by omega)
            · exact Or.inl ⟨by omega, q2⟩
        · rw [if_pos (hth.mpr ht)]
          exact no (fun q => ht q.2)
      · rw [if_neg hc, if_neg (by decide)]
        exact no (fun q => hc (hcirc.mpr q.1))
  have begun : ∀ (m : Nat) (x l : Int), 0 ≤ x → x + m = gv g → rI l → (∀ i : Nat, bi l i = true ↔ (i : Int) < x ∧ B i ≠ 0) → K_120 (d + 3) 4 [.ref 36, iV l, iV x, .retAddr 0, .retAddr 0] [] u Q := by
    intro m
    induction m with
    | zero =>
      intro x l x0 xe hlI hl
      refine k_120_4 ?_
      rw [c0, c1]
      refine ⟨sx_6, ⟨by omega, by omega⟩, ⟨by omega, by omega⟩, ?_⟩
      rw [if_neg (by omega)]
      refine circles l hlI (fun i => ?_) (gv g) 0 0 (Int.le_refl 0) (by omega) (fun i => ⟨fun h => (by rw [bi_0] at h; cases h), fun h => by omega⟩)
      rw [hl i]
      constructor
      · rintro ⟨q1, q2⟩; exact ⟨by omega, q2⟩
      · rintro ⟨q1, q2⟩; exact ⟨by omega, q2⟩
    | succ m ih =>
      intro x l x0 xe hlI hl
      have hxR : iR (gv g) x := ⟨x0, by omega⟩
      refine k_120_4 ?_
      rw [c0, c1]
      refine ⟨sx_6, ⟨by omega, by omega⟩, ⟨by omega, by omega⟩, ?_⟩
      rw [if_pos (by omega), h54 x hxR]
      refine ⟨x0, by omega, rLc (hB x), ?_⟩
      by_cases h0 : B x = 0
      · rw [if_pos (cl_z.mpr h0)]
        refine ih (x + 1) _ (by omega) (by omega) (ri_ior _ _) (fun i => ?_)
        rw [bi_ior, bi_0, Bool.or_false, hl i]
        constructor
        · rintro ⟨q1, q2⟩; exact ⟨by omega, q2⟩
        · rintro ⟨q1, q2⟩
          by_cases e : (i : Int) = x
          · rw [e] at q2; exact absurd h0 q2
          · exact ⟨by omega, q2⟩
      · rw [if_neg (fun h => h0 (cl_z.mp h))]
        refine ih (x + 1) _ (by omega) (by omega) (ri_ior _ _) (fun i => ?_)
        rw [bi_ior, bi_bit x0 (by omega), Bool.or_eq_true, decide_eq_true_eq, hl i]
        constructor
        · rintro (q | q)
          · exact ⟨by omega, q.2⟩
          · have e : (i : Int) = x := by omega
            rw [e]
            exact ⟨by omega, h0⟩
        · rintro ⟨q1, q2⟩
          by_cases e : (i : Int) = x
          · exact Or.inr (by omega)
          · exact Or.inl ⟨by omega, q2⟩
  exact e_120 (begun (gv g) 0 0 (Int.le_refl 0) (by omega) ⟨by omega, by omega⟩ (fun i => ⟨fun h => (by rw [bi_0] at h; cases h), fun h => by omega⟩))
