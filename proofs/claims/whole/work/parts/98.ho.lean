/-! goBack: the ways from a state to the end of a rule -/
def wb (L H : Int → Int) (dl : Int → Int → Int) (l : Int → Int) (n : Nat) (last sz : Int) : Nat → Int → Int → Int → Prop
  | 0 => fun o c g => o = last ∧ c = 0 ∧ g = 0
  | j + 1 => fun o => uptoW (wb L H dl l n last sz j) (fun q o => stT L H dl (l (sz - ((j : Int) + 1))) o q) n o
def cgB (v : uS) (k o : Int) (W : Int → Int → Prop) : Prop := Bst W (v.1 342 (40 * k + o)) (v.1 343 (40 * k + o)) (v.1 344 (40 * k + o))
theorem cgB_of {v w : uS} {k q : Int} {W W' : Int → Int → Prop} (h : cgB v k q W) (e8 : w.1 342 (40 * k + q) = v.1 342 (40 * k + q)) (e9 : w.1 343 (40 * k + q) = v.1 343 (40 * k + q)) (e0 : w.1 344 (40 * k + q) = v.1 344 (40 * k + q)) (eW : ∀ c g, W c g ↔ W' c g) : cgB w k q W' := by
  unfold cgB at h ⊢
  rw [e8, e9, e0]
  exact bst_congr h eW
theorem p_279 {d n : Nat} {u : uS} {k o q s c1 g1 : Int} {dl : Int → Int → Int} {A W : Int → Int → Prop} (hn : n ≤ 40) (hk0 : 0 ≤ k) (hk1 : k < 6) (ho : iR n o) (hq : iR n q) (hs : symR 10 s) (hL : okL (u.1 324) (u.1 325)) (hst : stT (u.1 324) (u.1 325) dl s o q c1 g1) (hA : cgB u k o A) (hW : cgB u (k + 1) q W) (hne : u.1 342 (40 * (k + 1) + q) ≠ 6000000000000000000) : cV (d + 2) 279 [.ref 271, iV k, iV o, iV q, iV s, lV (u.1 342 (40 * (k + 1) + q))] u (fun u' => u'.2 = u.2 ∧ sb1 u u' [342, 343, 344] ∧ (∀ j, j ≠ 40 * k + o → u'.1 342 j = u.1 342 j ∧ u'.1 343 j = u.1 343 j ∧ u'.1 344 j = u.1 344 j) ∧ cgB u' k o (fun c g => A c g ∨ ∃ c' g', W c' g' ∧ c = sq c' c1 ∧ g = max g' g1)) := by
  obtain ⟨o0, o1⟩ := id ho
  obtain ⟨q0, q1⟩ := id hq
  obtain ⟨r1, r2⟩ := stT_R hL hs ⟨o0, by omega⟩ ⟨q0, by omega⟩ hst
  have hsI : rI s := by rcases hs with z | z <;> exact ⟨by omega, by omega⟩
  have b2 := bst_step hW hne r1 r2
  obtain ⟨w1, w2, w3, w4, -⟩ := id hW
  have hfc := lR_c w2 hne
  have hn2 : sq (u.1 342 (40 * (k + 1) + q)) c1 ≠ 6000000000000000000 := by
    have := sq_R hfc r1
    unfold cB at this
    omega
  have a2 := hA.2.1
  have a3 := hA.2.2.1
  have a4 := hA.2.2.2.1
  generalize hi : 40 * k + o = i at *
  have hi' : 0 ≤ i ∧ i < 280 := by omega
  -- the end of the method
  have fin : ∀ (x : Int), x = min (max (u.1 344 (40 * (k + 1) + q)) g1) (u.1 344 i) → K_279 (d + 1) 165 [.ref 271, iV k, iV o, .retAddr 0, .retAddr 0, .retAddr 0, .retAddr 0, lV (sq (u.1 342 (40 * (k + 1) + q)) c1), .retAddr 0, iV (max (u.1 343 (40 * (k + 1) + q)) g1), .retAddr 0, .retAddr 0] [iV x, iV i, .ref 344] u (fun u' => u'.2 = u.2 ∧ sb1 u u' [342, 343, 344] ∧ (∀ j, j ≠ i → u'.1 342 j = u.1 342 j ∧ u'.1 343 j = u.1 343 j ∧ u'.1 344 j = u.1 344 j) ∧ cgB u' k o (fun c g => A c g ∨ ∃ c' g', W c' g' ∧ c = sq c' c1 ∧ g = max g' g1)) := by
    intro x hx
    refine k_279_165 (d := d) (ns0 := 280) sx_344 ⟨hi'.1, hi'.2, fun v ev => ?_⟩
    rw [hi]
    have v2 : v.1 342 = u.1 342 := by rw [ev, wr_ne (by omega)]
    have v3 : v.1 343 = u.1 343 := by rw [ev, wr_ne (by omega)]
    have v4 : v.1 344 = uf (u.1 344) i x := by rw [ev, wr_uf]
    have sv : sb1 u v [342, 343, 344] := by rw [ev]; exact sb1_wr (sb1_refl _ _) (by simp)
    have rv : v.2 = u.2 := by rw [ev]; rfl
    have hAb : Bst A (u.1 342 i) (u.1 343 i) (u.1 344 i) := by
      have := hA
      unfold cgB at this
      rw [hi] at this
      exact this
    have take : ∀ w1 : uS, w1 = wr v 342 i (sq (u.1 342 (40 * (k + 1) + q)) c1) → ∀ w : uS, w = wr w1 343 i (max (u.1 343 (40 * (k + 1) + q)) g1) → (sq (u.1 342 (40 * (k + 1) + q)) c1 < u.1 342 i ∨ sq (u.1 342 (40 * (k + 1) + q)) c1 = u.1 342 i ∧ max (u.1 343 (40 * (k + 1) + q)) g1 < u.1 343 i) → (w.2 = u.2 ∧ sb1 u w [342, 343, 344] ∧ (∀ j, j ≠ i → w.1 342 j = u.1 342 j ∧ w.1 343 j = u.1 343 j ∧ w.1 344 j = u.1 344 j) ∧ cgB w k o (fun c g => A c g ∨ ∃ c' g', W c' g' ∧ c = sq c' c1 ∧ g = max g' g1)) := by
      intro w1 e1 w e hkk
      have y2 : w.1 342 = uf (u.1 342) i (sq (u.1 342 (40 * (k + 1) + q)) c1) := by rw [e, wr_ne (by omega), e1, wr_uf, v2]
      have y3 : w.1 343 = uf (u.1 343) i (max (u.1 343 (40 * (k + 1) + q)) g1) := by rw [e, wr_uf, e1, wr_ne (by omega), v3]
      have y4 : w.1 344 = uf (u.1 344) i x := by rw [e, wr_ne (by omega), e1, wr_ne (by omega), v4]
      refine ⟨by rw [e, wr_2, e1, wr_2, rv], ?_, fun j hj => ?_, ?_⟩
      · rw [e]
        refine sb1_wr ?_ (by simp)
        rw [e1]
        exact sb1_wr sv (by simp)
      · rw [y2, y3, y4, uf_ne hj, uf_ne hj, uf_ne hj]
        exact ⟨rfl, rfl, rfl⟩
      · unfold cgB
        rw [hi, y2, y3, y4, uf_eq, uf_eq, uf_eq]
        exact bst_join hAb b2 hn2 hx (fun _ => ⟨rfl, rfl⟩) (fun z => absurd hkk z)
    have keep : ¬ (sq (u.1 342 (40 * (k + 1) + q)) c1 < u.1 342 i ∨ sq (u.1 342 (40 * (k + 1) + q)) c1 = u.1 342 i ∧ max (u.1 343 (40 * (k + 1) + q)) g1 < u.1 343 i) → (v.2 = u.2 ∧ sb1 u v [342, 343, 344] ∧ (∀ j, j ≠ i → v.1 342 j = u.1 342 j ∧ v.1 343 j = u.1 343 j ∧ v.1 344 j = u.1 344 j) ∧ cgB v k o (fun c g => A c g ∨ ∃ c' g', W c' g' ∧ c = sq c' c1 ∧ g = max g' g1)) := by
      intro hkk
      refine ⟨rv, sv, fun j hj => ?_, ?_⟩
      · rw [v2, v3, v4, uf_ne hj]
        exact ⟨rfl, rfl, rfl⟩
      · unfold cgB
        rw [hi, v2, v3, v4, uf_eq]
        exact bst_join hAb b2 hn2 hx (fun z => absurd z hkk) (fun _ => ⟨rfl, rfl⟩)
    rw [v2, v3]
    refine ⟨hi'.1, hi'.2, lR_L b2.2.1, lR_L a2, ?_⟩
    split
    · next z => exact fun w1 e1 w e => take w1 e1 w e (Or.inl z)
    · next z =>
      split
      · next z2 =>
        refine ⟨hR_I b2.2.2.1, hR_I a3, ?_⟩
        split
        · next z3 => exact fun w1 e1 w e => take w1 e1 w e (Or.inr ⟨z2, z3⟩)
        · next z3 =>
          have hke := keep (by omega)
          rw [v2, v3] at hke
          exact hke
      · next z2 =>
        have hke := keep (by omega)
        rw [v2, v3] at hke
        exact hke
  -- the middle
  have mid : ∀ (g : Int), g = g1 → K_279 (d + 1) 90 [.ref 271, iV k, iV o, iV q, .retAddr 0, .retAddr 0, .retAddr 0, lV (sq (u.1 342 (40 * (k + 1) + q)) c1), .retAddr 0, .retAddr 0, iV g, .retAddr 0] [iV (max (u.1 343 (40 * (k + 1) + q)) g1)] u (fun u' => u'.2 = u.2 ∧ sb1 u u' [342, 343, 344] ∧ (∀ j, j ≠ i → u'.1 342 j = u.1 342 j ∧ u'.1 343 j = u.1 343 j ∧ u'.1 344 j = u.1 344 j) ∧ cgB u' k o (fun c g => A c g ∨ ∃ c' g', W c' g' ∧ c = sq c' c1 ∧ g = max g' g1)) := by
    intro g eg
    rw [eg]
    refine k_279_90 (d := d) ⟨by omega, by omega, hR_I r2, hR_I w4, ?_⟩
    rw [hi]
    split
    · next z =>
      refine ⟨hi'.1, hi'.2, hR_I a4, ?_⟩
      split
      · next z2 => exact fin _ (by omega)
      · next z2 => exact fin _ (by omega)
    · next z =>
      refine ⟨hi'.1, hi'.2, hR_I a4, ?_⟩
      split
      · next z2 => exact fin _ (by omega)
      · next z2 => exact fin _ (by omega)
  refine e_279 (d := d) ⟨hsI, ?_⟩
  unfold stT at hst
  unfold hR at w3
  by_cases hs100 : s < 100
  · rw [if_pos hs100]
    rw [if_pos hs100] at hst
    obtain ⟨t1, t2, t3⟩ := hst
    refine k_279_28 (d := d) ⟨cB_cn hfc, cB_cn cB1, by omega, by omega, hsI, ?_⟩
    rw [if_pos hs100, pl_sq hfc cB1]
    refine ⟨⟨by omega, by omega⟩, ?_⟩
    rw [if_neg (by omega)]
    have := mid 0 t3.symm
    rw [t3, t2, Int.max_eq_left w3.1] at this
    rw [t2, t3]
    exact this
  · rw [if_neg hs100]
    rw [if_neg hs100] at hst
    obtain ⟨t1, t2, t3⟩ := hst
    have hx10 : 0 ≤ s - 100 ∧ s - 100 < 10 := by rcases hs with z | z <;> omega
    have ht := tix_R (o := o) (x := s - 100) (q := q) ⟨o0, by omega⟩ hx10 ⟨q0, by omega⟩
    rw [show (10 * o + (s - 100)) * 40 + q = tix o (s - 100) q from rfl]
    refine ⟨ht.1, ht.2, k_279_28 (d := d) ⟨cB_cn hfc, cB_cn (by rw [← t2]; exact r1), by omega, by omega, hsI, ?_⟩⟩
    rw [if_neg hs100, pl_sq hfc (by rw [← t2]; exact r1)]
    rw [show (10 * o + (s - 100)) * 40 + q = tix o (s - 100) q from rfl]
    rw [← t2, ← t3]
    refine ⟨ht.1, ht.2, hR_I r2, ⟨by omega, by omega⟩, ?_⟩
    split
    · next z =>
      have := mid g1 rfl
      rw [Int.max_eq_right (Int.le_of_lt z)] at this
      rw [Int.max_eq_right (Int.le_of_lt z)] at fin
      exact this
    · next z =>
      have := mid g1 rfl
      rw [Int.max_eq_left (show g1 ≤ u.1 343 (40 * (k + 1) + q) by omega)] at this
      exact this
theorem q_278 {d nv nr n : Nat} {u : uS} {m r last : Int} (hG : RGc u nv nr n m) (hr0 : 0 ≤ r) (hr1 : r < nr) (hla : iR n last) (hL : okL (u.1 324) (u.1 325)) : cV (d + 4) 278 [.ref 271, iV m, iV r, iV last] u (fun u' => u'.2 = u.2 ∧ sb1 u u' [342, 343, 344] ∧ ∀ j : Nat, (j : Int) ≤ u.1 276 r → ∀ o, iR n o → cgB u' (u.1 276 r - j) o (wb (u.1 324) (u.1 325) (dlR u m) (rwR u r) n last (u.1 276 r) j o)) := by
  obtain ⟨g1, g2, g3, g4, g5, g6, g7, g8, g9⟩ := id hG
  obtain ⟨x1, x2, x3, x4⟩ := g4 r hr0 hr1
  have x5 : ∀ k : Int, 0 ≤ k → k < u.1 276 r → symR 10 (rwR u r k) := fun k k0 k1 => symR10 g1 (x4 k k0 k1)
  generalize hsz : u.1 276 r = sz at x2 x3 x4 x5
  generalize hWW : wb (u.1 324) (u.1 325) (dlR u m) (rwR u r) n last sz = W
  have hW0 : ∀ o c g, W 0 o c g ↔ (o = last ∧ c = 0 ∧ g = 0) := fun o c g => by rw [← hWW]; exact Iff.rfl
  have hWs : ∀ (j : Nat) o, W (j + 1) o = uptoW (W j) (fun q o => stT (u.1 324) (u.1 325) (dlR u m) (rwR u r (sz - ((j : Int) + 1))) o q) n o := fun j o => by rw [← hWW]; rfl
  clear hWW
  have levels : ∀ (m' j : Nat) (v : uS), (j : Int) + m' = sz → v.2 = u.2 → sb1 u v [342, 343, 344] → (∀ j' : Nat, j' ≤ j → ∀ o, iR n o → cgB v (sz - j') o (W j' o)) → K_278 (d + 3) 104 [.ref 271, iV m, iV r, .retAddr 0, iV n, .retAddr 0, iV (sz - 1 - j), .retAddr 0, .retAddr 0, .retAddr 0, .retAddr 0, .retAddr 0, .retAddr 0] [] v (fun u' => u'.2 = u.2 ∧ sb1 u u' [342, 343, 344] ∧ ∀ j : Nat, (j : Int) ≤ sz → ∀ o, iR n o → cgB u' (sz - j) o (W j o)) := by
    intro m'
    induction m' with
    | zero =>
      intro j v he h2 hs hg
      refine k_278_104 (d := d + 2) ⟨⟨by omega, by omega⟩, ?_⟩
      rw [if_pos (by omega)]
      exact ⟨h2, hs, fun j' hj' => hg j' (by omega)⟩
    | succ m' ih =>
      intro j v he h2 hs hg
      have v7 : v.1 277 = u.1 277 := hs _ (by simp)
      have hsym := x5 (sz - 1 - j) (by omega) (by omega)
      refine k_278_104 (d := d + 2) ⟨⟨by omega, by omega⟩, ?_⟩
      rw [if_neg (by omega)]
      refine ⟨by omega, by omega, ?_⟩
      rw [v7]
      have hsI : rI (rwR u r (sz - 1 - j)) := by rcases hsym with z | z <;> exact ⟨by omega, by omega⟩
      have ejj : sz - ((j : Int) + 1) = sz - 1 - j := by omega
      have hWj := hWs j
      rw [ejj] at hWj
      show K_278 (d + 3) 126 [.ref 271, iV m, iV r, .retAddr 0, iV n, .retAddr 0, iV (sz - 1 - j), iV (rwR u r (sz - 1 - j)), iV 0, .retAddr 0, .retAddr 0, .retAddr 0, .retAddr 0] [] v _
      generalize rwR u r (sz - 1 - j) = s at hsym hsI hWj ⊢
      generalize hk : sz - 1 - (j : Int) = k at *
      have hk0 : 0 ≤ k ∧ k < 6 := by omega
      have ek : sz - (j : Int) = k + 1 := by omega
      have overO : ∀ (m2 : Nat) (o : Int) (w : uS), 0 ≤ o → o + m2 = n → w.2 = u.2 → sb1 u w [342, 343, 344] → (∀ j' : Nat, j' ≤ j → ∀ o, iR n o → cgB w (sz - j') o (W j' o)) → (∀ o', iR n o' → o' < o → cgB w k o' (W (j + 1) o')) → K_278 (d + 3) 126 [.ref 271, iV m, iV r, .retAddr 0, iV n, .retAddr 0, iV k, iV s, iV o, .retAddr 0, .retAddr 0, .retAddr 0, .retAddr 0] [] w (fun u' => u'.2 = u.2 ∧ sb1 u u' [342, 343, 344] ∧ ∀ j : Nat, (j : Int) ≤ sz → ∀ o, iR n o → cgB u' (sz - j) o (W j o)) := by
        intro m2
        induction m2 with
        | zero =>
          intro o w ho hoe w2 ws wg wn
          refine k_278_126 (d := d + 2) ⟨⟨by omega, by omega⟩, ⟨by omega, by omega⟩, ?_⟩
          rw [if_neg (by omega)]
          have e1 : k + -1 = sz - 1 - ((j + 1 : Nat) : Int) := by omega
          rw [e1]
          refine ih (j + 1) w (by omega) w2 ws (fun j' hj' o' ho' => ?_)
          by_cases e : j' = j + 1
          · rw [e]
            have e2 : sz - ((j + 1 : Nat) : Int) = k := by omega
            rw [e2]
            exact wn o' ho' (by have := ho'.2; omega)
          · exact wg j' (by omega) o' ho'
        | succ m2 ih2 =>
          intro o w ho hoe w2 ws wg wn
          have hoR : iR n o := ⟨ho, by omega⟩
          refine k_278_126 (d := d + 2) ⟨⟨by omega, by omega⟩, ⟨by omega, by omega⟩, ?_⟩
          rw [if_pos (by omega)]
          refine ⟨by omega, by omega, fun w6 e6 w8 e8 w10 e10 => ?_⟩
          have y3 : ∀ i : Int, i ≠ 40 * k + o → w10.1 342 i = w.1 342 i ∧ w10.1 343 i = w.1 343 i ∧ w10.1 344 i = w.1 344 i := fun i hj => by
            rw [e10, e8, e6]
            simp only [wr_1]
            rw [if_neg (by omega), if_neg (by omega), if_neg (by omega), if_neg (by omega), if_neg (by omega), if_neg (by omega), if_neg (by omega), if_neg (by omega), if_neg (by omega)]
            exact ⟨rfl, rfl, rfl⟩
          have y4 : cgB w10 k o (fun _ _ => False) := by
            have f1 : w10.1 342 (40 * k + o) = 6000000000000000000 := by rw [e10, wr_ne (by omega), e8, wr_ne (by omega), e6, wr_self]
            have f2 : w10.1 343 (40 * k + o) = 0 := by rw [e10, wr_ne (by omega), e8, wr_self]
            have f3 : w10.1 344 (40 * k + o) = 1000000 := by rw [e10, wr_self]
            unfold cgB
            rw [f1, f2, f3]
            exact bst_emp
          have y2 : w10.2 = u.2 := by rw [e10, wr_2, e8, wr_2, e6, wr_2, w2]
          have ys : sb1 u w10 [342, 343, 344] := by
            rw [e10]
            refine sb1_wr ?_ (by simp)
            rw [e8]
            refine sb1_wr ?_ (by simp)
            rw [e6]
            exact sb1_wr ws (by simp)
          have overQ : ∀ (m3 : Nat) (q : Int) (w' : uS), 0 ≤ q → q + m3 = n → w'.2 = u.2 → sb1 u w' [342, 343, 344] → (∀ j' : Nat, j' ≤ j → ∀ o, iR n o → cgB w' (sz - j') o (W j' o)) → (∀ o', iR n o' → o' < o → cgB w' k o' (W (j + 1) o')) → cgB w' k o (uptoW (W j) (fun q o => stT (u.1 324) (u.1 325) (dlR u m) s o q) q o) → K_278 (d + 3) 182 [.ref 271, iV m, iV r, .retAddr 0, iV n, .retAddr 0, iV k, iV s, iV o, iV q, .retAddr 0, .retAddr 0, .retAddr 0] [] w' (fun u' => u'.2 = u.2 ∧ sb1 u u' [342, 343, 344] ∧ ∀ j : Nat, (j : Int) ≤ sz → ∀ o, iR n o → cgB u' (sz - j) o (W j o)) := by
            intro m3
            induction m3 with
            | zero =>
              intro q w' hq hqe a1 a2 a3 a4 a5
              refine k_278_182 (d := d + 2) ⟨⟨by omega, by omega⟩, ⟨by omega, by omega⟩, ?_⟩
              rw [if_neg (by omega)]
              refine ih2 (o + 1) w' (by omega) (by omega) a1 a2 a3 (fun o' ho' hlt => ?_)
              by_cases e : o' = o
              · rw [e, hWj o]
                have e3 : q = n := by omega
                rw [e3] at a5
                exact a5
              · exact a4 o' ho' (by omega)
            | succ m3 ih3 =>
              intro q w' hq hqe a1 a2 a3 a4 a5
              have hqR : iR n q := ⟨hq, by omega⟩
              have hold := a3 j (Nat.le_refl j) q hqR
              rw [ek] at hold
              have a02 : w'.1 302 = u.1 302 := a2 _ (by simp)
              have a24 : w'.1 324 = u.1 324 := a2 _ (by simp)
              have a25 : w'.1 325 = u.1 325 := a2 _ (by simp)
              refine k_278_182 (d := d + 2) ⟨⟨by omega, by omega⟩, ⟨by omega, by omega⟩, ?_⟩
              rw [if_pos (by omega)]
              refine ⟨by omega, by omega, lR_L hold.2.1, ?_⟩
              -- nothing comes through
              have skip : (∀ c g, ¬ viaW (W j) (fun q o => stT (u.1 324) (u.1 325) (dlR u m) s o q) q o c g) → K_278 (d + 3) 182 [.ref 271, iV m, iV r, .retAddr 0, iV n, .retAddr 0, iV k, iV s, iV o, iV (q + 1), .retAddr 0, .retAddr 0, .retAddr 0] [] w' (fun u' => u'.2 = u.2 ∧ sb1 u u' [342, 343, 344] ∧ ∀ j : Nat, (j : Int) ≤ sz → ∀ o, iR n o → cgB u' (sz - j) o (W j o)) := by
                intro hno
                refine ih3 (q + 1) w' (by omega) (by omega) a1 a2 a3 a4 (cgB_of a5 rfl rfl rfl (fun c g => ?_))
                rw [uptoW_succ hq]
                exact ⟨Or.inl, fun z => z.elim id (fun z => absurd z (hno c g))⟩
              -- something does
              have goes : ∀ c1 g1, stT (u.1 324) (u.1 325) (dlR u m) s o q c1 g1 → (∀ c2 g2, stT (u.1 324) (u.1 325) (dlR u m) s o q c2 g2 → c2 = c1 ∧ g2 = g1) → w'.1 342 (40 * (k + 1) + q) ≠ 6000000000000000000 → cV (d + 3) 279 [.ref 271, iV k, iV o, iV q, iV s, lV (w'.1 342 (40 * (k + 1) + q))] w' (fun u14 => K_278 (d + 3) 182 [.ref 271, iV m, iV r, .retAddr 0, iV n, .retAddr 0, iV k, iV s, iV o, iV (q + 1), .retAddr 0, .retAddr 0, .retAddr 0] [] u14 (fun u' => u'.2 = u.2 ∧ sb1 u u' [342, 343, 344] ∧ ∀ j : Nat, (j : Int) ≤ sz → ∀ o, iR n o → cgB u' (sz - j) o (W j o))) := by
                intro c1 g1 hst huq hne
                have hp := p_279 (d := d + 1) (n := n) (u := w') (k := k) (o := o) (q := q) (s := s) (c1 := c1) (g1 := g1) (dl := dlR u m) g6 hk0.1 hk0.2 hoR hqR hsym (by rw [a24, a25]; exact hL) (by rw [a24, a25]; exact hst) a5 hold hne
                refine cV.mono hp (Nat.le_refl _) (fun w'' ⟨z1, z2, z3, z4⟩ => ?_)
                refine ih3 (q + 1) w'' (by omega) (by omega) (z1.trans a1) (fun b hb => (z2 b hb).trans (a2 b hb)) (fun j' hj' o' ho' => ?_) (fun o' ho' hlt => ?_) (cgB_of z4 rfl rfl rfl (fun c g => ?_))
                · have h1 := ho'.1
                  have h2' := ho'.2
                  have := z3 (40 * (sz - (j' : Int)) + o') (by omega)
                  exact cgB_of (a3 j' hj' o' ho') this.1 this.2.1 this.2.2 (fun _ _ => Iff.rfl)
                · have := z3 (40 * k + o') (by omega)
                  exact cgB_of (a4 o' ho' hlt) this.1 this.2.1 this.2.2 (fun _ _ => Iff.rfl)
                · rw [uptoW_succ hq]
                  constructor
                  · rintro (z | ⟨c', g', y1, y2, y3⟩)
                    · exact Or.inl z
                    · exact Or.inr ⟨c', g', c1, g1, y1, hst, y2, y3⟩
                  · rintro (z | ⟨c', g', c2, g2, y1, y2, y3, y4⟩)
                    · exact Or.inl z
                    · obtain ⟨e1, e2⟩ := huq c2 g2 y2
                      rw [e1] at y3
                      rw [e2] at y4
                      exact Or.inr ⟨c', g', y1, y3, y4⟩
              by_cases hfar : w'.1 342 (40 * (k + 1) + q) = 6000000000000000000
              · rw [if_pos hfar]
                refine skip (fun c g ⟨c', g', c1, g1, z, _⟩ => ?_)
                have hle := hold.2.2.2.2.1 c' g' z
                have hc := (hold.1 c' g' z).1
                unfold cB at hc
                omega
              · rw [if_neg hfar]
                refine ⟨hsI, ?_⟩
                have ho2 := hoR.2
                by_cases hs100 : s < 100
                · rw [if_pos hs100, a02]
                  have hs10 : 0 ≤ s ∧ s < 10 := by rcases hsym with z | z <;> omega
                  have hdq : iR n (u.1 302 (400 * m + 10 * o + s)) := g9 o s hoR hs10.1 hs10.2
                  have hd0 := hdq.1
                  have hd1 := hdq.2
                  refine ⟨by rcases g8 with z | z <;> rw [z] <;> omega, by rcases g8 with z | z <;> rw [z] <;> omega, ⟨by omega, by omega⟩, ?_⟩
                  by_cases e : u.1 302 (400 * m + 10 * o + s) = q
                  · rw [if_pos e]
                    refine goes 1 0 ?_ (fun c2 g2 z => ?_) hfar
                    · unfold stT
                      rw [if_pos hs100]
                      exact ⟨e.symm, rfl, rfl⟩
                    · unfold stT at z
                      rw [if_pos hs100] at z
                      exact z.2
                  · rw [if_neg e]
                    refine skip (fun c g ⟨c', g', c1, g1, _, z, _⟩ => ?_)
                    have z' : stT (u.1 324) (u.1 325) (dlR u m) s o q c1 g1 := z
                    unfold stT at z'
                    rw [if_pos hs100] at z'
                    exact e z'.1.symm
                · rw [if_neg hs100, a24]
                  have hx10 : 0 ≤ s - 100 ∧ s - 100 < 10 := by rcases hsym with z | z <;> omega
                  have ht := tix_R (o := o) (x := s - 100) (q := q) ⟨ho, by omega⟩ hx10 ⟨hq, by omega⟩
                  rw [show (10 * o + (s - 100)) * 40 + q = tix o (s - 100) q from rfl]
                  refine ⟨ht.1, ht.2, lR_L (hL _ ht.1 ht.2).1, ?_⟩
                  by_cases e : u.1 324 (tix o (s - 100) q) = 6000000000000000000
                  · rw [if_pos e]
                    refine skip (fun c g ⟨c', g', c1, g1, _, z, _⟩ => ?_)
                    have z' : stT (u.1 324) (u.1 325) (dlR u m) s o q c1 g1 := z
                    unfold stT at z'
                    rw [if_neg hs100] at z'
                    exact z'.1 e
                  · rw [if_neg e]
                    refine goes (u.1 324 (tix o (s - 100) q)) (u.1 325 (tix o (s - 100) q)) ?_ (fun c2 g2 z => ?_) hfar
                    · unfold stT
                      rw [if_neg hs100]
                      exact ⟨e, rfl, rfl⟩
                    · unfold stT at z
                      rw [if_neg hs100] at z
                      exact z.2
          refine overQ n 0 w10 (Int.le_refl 0) (by omega) y2 ys (fun j' hj' o' ho' => ?_) (fun o' ho' hlt => ?_) (cgB_of y4 rfl rfl rfl (fun c g => uptoW_0.symm))
          · have h1 := ho'.1
            have h2' := ho'.2
            have := y3 (40 * (sz - (j' : Int)) + o') (by omega)
            exact cgB_of (wg j' hj' o' ho') this.1 this.2.1 this.2.2 (fun _ _ => Iff.rfl)
          · have := y3 (40 * k + o') (by omega)
            exact cgB_of (wn o' ho' hlt) this.1 this.2.1 this.2.2 (fun _ _ => Iff.rfl)
      exact overO n 0 v (Int.le_refl 0) (by omega) h2 hs hg (fun o' ho' hlt => by have := ho'.1; omega)
  have start : ∀ (m2 : Nat) (o : Int) (w : uS), 0 ≤ o → o + m2 = n → w.2 = u.2 → sb1 u w [342, 343, 344] → (∀ q, iR n q → q < o → cgB w sz q (W 0 q)) → K_278 (d + 3) 19 [.ref 271, iV m, iV r, iV last, iV n, iV sz, iV o, .retAddr 0, .retAddr 0, .retAddr 0, .retAddr 0, .retAddr 0, .retAddr 0] [] w (fun u' => u'.2 = u.2 ∧ sb1 u u' [342, 343, 344] ∧ ∀ j : Nat, (j : Int) ≤ sz → ∀ o, iR n o → cgB u' (sz - j) o (W j o)) := by
    intro m2
    induction m2 with
    | zero =>
      intro o w ho hoe w2 ws wn
      refine k_278_19 (d := d + 2) ⟨⟨by omega, by omega⟩, ⟨by omega, by omega⟩, ?_⟩
      rw [if_neg (by omega)]
      have := levels sz.toNat 0 w (by omega) w2 ws (fun j' hj' q hq => by
        have e : j' = 0 := by omega
        rw [e]
        have e2 : sz - ((0 : Nat) : Int) = sz := by omega
        rw [e2]
        exact wn q hq (by have := hq.2; omega))
      have e2 : sz - 1 - ((0 : Nat) : Int) = sz - 1 := by omega
      rw [e2] at this
      exact this
    | succ m2 ih2 =>
      intro o w ho hoe w2 ws wn
      have hp0 := hla.1
      have hp1 := hla.2
      refine k_278_19 (d := d + 2) ⟨⟨by omega, by omega⟩, ⟨by omega, by omega⟩, ?_⟩
      rw [if_pos (by omega)]
      refine ⟨⟨by omega, by omega⟩, ?_⟩
      have put : ∀ (c g : Int) (w6 : uS), w6 = wr w 342 (40 * sz + o) c → ∀ w8 : uS, w8 = wr w6 343 (40 * sz + o) 0 → ∀ w10 : uS, w10 = wr w8 344 (40 * sz + o) g → Bst (W 0 o) c 0 g → K_278 (d + 3) 19 [.ref 271, iV m, iV r, iV last, iV n, iV sz, iV (o + 1), .retAddr 0, .retAddr 0, .retAddr 0, .retAddr 0, .retAddr 0, .retAddr 0] [] w10 (fun u' => u'.2 = u.2 ∧ sb1 u u' [342, 343, 344] ∧ ∀ j : Nat, (j : Int) ≤ sz → ∀ o, iR n o → cgB u' (sz - j) o (W j o)) := by
        intro c g w6 e6 w8 e8 w10 e10 hb
        have y3 : ∀ j : Int, j ≠ 40 * sz + o → w10.1 342 j = w.1 342 j ∧ w10.1 343 j = w.1 343 j ∧ w10.1 344 j = w.1 344 j := fun j hj => by
          rw [e10, e8, e6]
          simp only [wr_1]
          rw [if_neg (by omega), if_neg (by omega), if_neg (by omega), if_neg (by omega), if_neg (by omega), if_neg (by omega), if_neg (by omega), if_neg (by omega), if_neg (by omega)]
          exact ⟨rfl, rfl, rfl⟩
        refine ih2 (o + 1) w10 (by omega) (by omega) (by rw [e10, wr_2, e8, wr_2, e6, wr_2, w2]) ?_ (fun q hq hlt => ?_)
        · rw [e10]
          refine sb1_wr ?_ (by simp)
          rw [e8]
          refine sb1_wr ?_ (by simp)
          rw [e6]
          exact sb1_wr ws (by simp)
        · by_cases e : q = o
          · rw [e]
            have f1 : w10.1 342 (40 * sz + o) = c := by rw [e10, wr_ne (by omega), e8, wr_ne (by omega), e6, wr_self]
            have f2 : w10.1 343 (40 * sz + o) = 0 := by rw [e10, wr_ne (by omega), e8, wr_self]
            have f3 : w10.1 344 (40 * sz + o) = g := by rw [e10, wr_self]
            unfold cgB
            rw [f1, f2, f3]
            exact hb
          · have := y3 (40 * sz + q) (by omega)
            exact cgB_of (wn q hq (by omega)) this.1 this.2.1 this.2.2 (fun _ _ => Iff.rfl)
      by_cases e : o = last
      · rw [if_pos e]
        refine ⟨by omega, by omega, fun w6 e6 w8 e8 w10 e10 => put 0 0 w6 e6 w8 e8 w10 e10 (bst_congr bst_one (fun c g => ?_))⟩
        rw [hW0]
        exact ⟨fun h => ⟨e, h⟩, fun h => h.2⟩
      · rw [if_neg e]
        refine ⟨by omega, by omega, fun w6 e6 w8 e8 w10 e10 => put _ _ w6 e6 w8 e8 w10 e10 (bst_congr bst_emp (fun c g => ?_))⟩
        rw [hW0]
        exact ⟨fun h => h.elim, fun h => e h.1⟩
  have hm0 : 0 ≤ m ∧ m < 100 := by rcases g8 with z | z <;> rw [z] <;> omega
  refine e_278 (d := d + 2) ⟨hm0.1, hm0.2, hr0, by omega, ?_⟩
  rw [g7, hsz]
  exact start n 0 u (Int.le_refl 0) (by omega) rfl (sb1_refl _ _) (fun q hq hlt => by have := hq.1; omega)
